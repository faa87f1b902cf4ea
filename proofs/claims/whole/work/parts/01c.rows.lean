theorem dX3_readPart_45 : decode cX3_readPart 45 = .ok (.iload_n 2, 1) := by decide +kernel
theorem dX3_readPart_46 : decode cX3_readPart 46 = .ok (.invokevirtual 90, 3) := by decide +kernel
theorem dX3_readPart_49 : decode cX3_readPart 49 = .ok (.aload_n 1, 1) := by decide +kernel
theorem dX3_readPart_50 : decode cX3_readPart 50 = .ok (.iload 4, 2) := by decide +kernel
theorem dX3_readPart_52 : decode cX3_readPart 52 = .ok (.invokevirtual 87, 3) := by decide +kernel
theorem dX3_readPart_55 : decode cX3_readPart 55 = .ok (.iinc 3 1, 3) := by decide +kernel
theorem dX3_readPart_58 : decode cX3_readPart 58 = .ok (.goto (-50), 3) := by decide +kernel
theorem dX3_readPart_61 : decode cX3_readPart 61 = .ok (.return_, 1) := by decide +kernel
set_option maxRecDepth 20000 in
theorem ggX3_readTest_X1_sees : GoodIn wsX3_readTest wsX1_sees := goodIn_r _ [7, 8, 9, 194, 195, 196, 197, 198] (by decide +kernel) (by decide +kernel)
set_option maxRecDepth 20000 in
theorem gX3_readTest_X1_sees : GoodIn wsX3_readTest (wsV RX3 80 RX1 yX1_sees wsX1_sees) := goodIn_app (goodIn_of _ (by decide +kernel)) ggX3_readTest_X1_sees
set_option maxRecDepth 20000 in
theorem ggX3_readTest_X3_opens : GoodIn wsX3_readTest wsX3_opens := goodIn_r _ [14, 1, 15, 16, 17, 6, 18, 19, 20, 21, 22, 23, 8, 24, 25, 26, 27, 28, 29, 30, 31, 32, 33, 9, 34, 35, 36, 37, 38, 39, 40, 193, 194, 195, 196, 197, 198, 209, 210] (by decide +kernel) (by decide +kernel)
set_option maxRecDepth 20000 in
theorem gX3_readTest_X3_opens : GoodIn wsX3_readTest (wsV RX3 93 RX3 yX3_opens wsX3_opens) := goodIn_app (goodIn_of _ (by decide +kernel)) ggX3_readTest_X3_opens
set_option maxRecDepth 20000 in
theorem ggX3_readTest_X3_readTest : GoodIn wsX3_readTest wsX3_readTest := goodIn_r _ [0, 1, 2, 3, 4, 5, 6, 7, 8, 9, 10, 11, 12, 13, 14, 15, 16, 17, 18, 19, 20, 21, 22, 23, 24, 25, 26, 27, 28, 29, 30, 31, 32, 33, 34, 35, 36, 37, 38, 39, 40, 41, 42, 43, 44, 45, 46, 47, 48, 49, 50, 51, 52, 53, 54, 55, 56, 57, 58, 59, 60, 61, 62, 63, 64, 65, 66, 67, 68, 69, 70, 71, 72, 73, 74, 75, 76, 77, 78, 79, 80, 81, 82, 83, 84, 85, 86, 87, 88, 89, 90, 91, 92, 93, 94, 95, 96, 97, 98, 99, 100, 101, 102, 103, 104, 105, 106, 107, 108, 109, 110, 111, 112, 113, 114, 115, 116, 117, 118, 119, 120, 121, 122, 123, 124, 125, 126, 127, 128, 129, 130, 131, 132, 133, 134, 135, 136, 137, 138, 139, 140, 141, 142, 143, 144, 145, 146, 147, 148, 149, 150, 151, 152, 153, 154, 155, 156, 157, 158, 159, 160, 161, 162, 163, 164, 165, 166, 167, 168, 169, 170, 171, 172, 173, 174, 175, 176, 177, 178, 179, 180, 181, 182, 183, 184, 185, 186, 187, 188, 189, 190, 191, 192, 193, 194, 195, 196, 197, 198, 199, 200, 201, 202, 203, 204, 205, 206, 207, 208, 209, 210] (by decide +kernel) (by decide +kernel)
set_option maxRecDepth 20000 in
theorem gX3_readTest_X3_readTest : GoodIn wsX3_readTest (wsV RX3 90 RX3 yX3_readTest wsX3_readTest) := goodIn_app (goodIn_of _ (by decide +kernel)) ggX3_readTest_X3_readTest
set_option maxRecDepth 20000 in
theorem ggX3_readTest_X2_put : GoodIn wsX3_readTest wsX2_put := goodIn_r _ [48, 49, 50, 51, 199, 200, 201, 202, 203, 204, 205, 206, 207, 208] (by decide +kernel) (by decide +kernel)
set_option maxRecDepth 20000 in
theorem gX3_readTest_X2_put : GoodIn wsX3_readTest (wsV RX3 83 RX2 yX2_put wsX2_put) := goodIn_app (goodIn_of _ (by decide +kernel)) ggX3_readTest_X2_put
set_option maxRecDepth 20000 in
theorem ggX3_readTest_X3_readCondition : GoodIn wsX3_readTest wsX3_readCondition := goodIn_r _ [184, 1, 185, 186, 187, 13, 3, 4, 5, 6, 7, 8, 9, 44, 45, 46, 47, 48, 49, 50, 51, 24, 25, 26, 27, 19, 28, 29, 30, 31, 32, 33, 34, 35, 36, 37, 38, 39, 40, 188, 189, 190, 191, 160, 161, 162, 192, 41, 42, 43, 0, 2, 10, 11, 12, 14, 15, 16, 17, 18, 20, 21, 22, 23, 52, 53, 54, 55, 56, 57, 58, 59, 60, 61, 62, 63, 64, 65, 66, 67, 68, 69, 70, 71, 72, 73, 74, 75, 76, 77, 78, 79, 80, 81, 82, 83, 84, 85, 86, 87, 88, 89, 90, 91, 92, 93, 94, 95, 96, 97, 98, 99, 100, 101, 102, 103, 104, 105, 106, 107, 108, 109, 110, 111, 112, 113, 114, 115, 116, 117, 118, 119, 120, 121, 122, 123, 124, 125, 126, 127, 128, 129, 130, 131, 132, 133, 134, 135, 136, 137, 138, 139, 140, 141, 142, 143, 144, 145, 146, 147, 148, 149, 150, 151, 152, 153, 154, 155, 156, 157, 158, 159, 163, 164, 165, 166, 167, 168, 169, 170, 171, 172, 173, 174, 175, 176, 177, 178, 179, 180, 181, 182, 183, 193, 194, 195, 196, 197, 198, 199, 200, 201, 202, 203, 204, 205, 206, 207, 208, 209, 210] (by decide +kernel) (by decide +kernel)
set_option maxRecDepth 20000 in
theorem gX3_readTest_X3_readCondition : GoodIn wsX3_readTest (wsV RX3 68 RX3 yX3_readCondition wsX3_readCondition) := goodIn_app (goodIn_of _ (by decide +kernel)) ggX3_readTest_X3_readCondition
set_option maxRecDepth 20000 in
theorem ggX3_readTest_X1_take : GoodIn wsX3_readTest wsX1_take := goodIn_r _ [58, 59, 4, 5, 6, 7, 8, 9, 60, 16, 17, 18, 19, 20, 21, 22, 23, 61, 25, 26, 27, 28, 29, 30, 31, 32, 33, 34, 35, 36, 37, 38, 39, 40, 194, 195, 196, 197, 198, 209, 210] (by decide +kernel) (by decide +kernel)
set_option maxRecDepth 20000 in
theorem gX3_readTest_X1_take : GoodIn wsX3_readTest (wsV RX3 65 RX1 yX1_take wsX1_take) := goodIn_app (goodIn_of _ (by decide +kernel)) ggX3_readTest_X1_take
set_option maxRecDepth 20000 in
theorem ggX3_readTest_X3_readSum : GoodIn wsX3_readTest wsX3_readSum := goodIn_r _ [65, 1, 2, 66, 67, 68, 13, 3, 4, 5, 6, 7, 8, 9, 24, 25, 26, 27, 19, 28, 29, 30, 31, 32, 33, 34, 35, 36, 37, 38, 39, 40, 44, 45, 46, 47, 48, 49, 50, 51, 69, 70, 71, 72, 73, 74, 75, 76, 77, 78, 79, 80, 81, 82, 83, 84, 85, 86, 87, 88, 89, 90, 91, 92, 93, 94, 95, 96, 97, 98, 99, 100, 101, 102, 103, 104, 105, 106, 107, 108, 109, 110, 111, 112, 113, 114, 115, 116, 117, 118, 119, 120, 121, 122, 123, 124, 125, 126, 127, 128, 129, 130, 131, 132, 133, 134, 135, 136, 137, 138, 139, 140, 141, 142, 143, 144, 145, 146, 147, 148, 149, 150, 151, 152, 153, 154, 155, 10, 11, 12, 14, 15, 16, 17, 18, 20, 21, 22, 23, 62, 63, 64, 55, 56, 57, 58, 59, 60, 61, 156, 157, 158, 159, 160, 161, 162, 163, 164, 165, 166, 167, 168, 169, 170, 171, 172, 173, 174, 175, 193, 194, 195, 196, 197, 198, 209, 210, 199, 200, 201, 202, 203, 204, 205, 206, 207, 208] (by decide +kernel) (by decide +kernel)
set_option maxRecDepth 20000 in
theorem gX3_readTest_X3_readSum : GoodIn wsX3_readTest (wsV RX3 59 RX3 yX3_readSum wsX3_readSum) := goodIn_app (goodIn_of _ (by decide +kernel)) ggX3_readTest_X3_readSum
set_option maxRecDepth 20000 in
theorem ggX3_readTest_X1_isFaulty : GoodIn wsX3_readTest wsX1_isFaulty := goodIn_r _ [179, 8, 194, 195, 196, 197, 198] (by decide +kernel) (by decide +kernel)
set_option maxRecDepth 20000 in
theorem gX3_readTest_X1_isFaulty : GoodIn wsX3_readTest (wsV RX3 96 RX1 yX1_isFaulty wsX1_isFaulty) := goodIn_app (goodIn_of _ (by decide +kernel)) ggX3_readTest_X1_isFaulty
set_option maxRecDepth 20000 in
theorem ggX3_readTest_X10_isOutcome : GoodIn wsX3_readTest wsX10_isOutcome := goodIn_r _ [183] (by decide +kernel) (by decide +kernel)
set_option maxRecDepth 20000 in
theorem gX3_readTest_X10_isOutcome : GoodIn wsX3_readTest (va_wsS RX3 100 yX10_isOutcome wsX10_isOutcome) := goodIn_app (goodIn_of _ (by decide +kernel)) ggX3_readTest_X10_isOutcome
set_option maxRecDepth 20000 in
theorem ggX3_readTest_X1_failHere : GoodIn wsX3_readTest wsX1_failHere := goodIn_r _ [18, 19, 20, 21, 22, 6, 23, 8, 194, 195, 196, 197, 198] (by decide +kernel) (by decide +kernel)
set_option maxRecDepth 20000 in
theorem gX3_readTest_X1_failHere : GoodIn wsX3_readTest (wsV RX3 42 RX1 yX1_failHere wsX1_failHere) := goodIn_app (goodIn_of _ (by decide +kernel)) ggX3_readTest_X1_failHere
set_option maxRecDepth 20000 in
theorem ggX3_readTest_X1_next : GoodIn wsX3_readTest wsX1_next := goodIn_r _ [27, 19, 28, 29, 30, 31, 32, 33, 9, 34, 35, 36, 37, 38, 39, 40, 194, 195, 196, 197, 198, 209, 210] (by decide +kernel) (by decide +kernel)
set_option maxRecDepth 20000 in
theorem gX3_readTest_X1_next : GoodIn wsX3_readTest (wsV RX3 46 RX1 yX1_next wsX1_next) := goodIn_app (goodIn_of _ (by decide +kernel)) ggX3_readTest_X1_next
theorem dX3_readTest_0 : decode cX3_readTest 0 = .ok (.aload_n 0, 1) := by decide +kernel
theorem dX3_readTest_1 : decode cX3_readTest 1 = .ok (.getfield 9, 3) := by decide +kernel
theorem dX3_readTest_4 : decode cX3_readTest 4 = .ok (.bipush 33, 2) := by decide +kernel
theorem dX3_readTest_6 : decode cX3_readTest 6 = .ok (.invokevirtual 80, 3) := by decide +kernel
theorem dX3_readTest_9 : decode cX3_readTest 9 = .ok (.ifCond .eq 30, 3) := by decide +kernel
theorem dX3_readTest_12 : decode cX3_readTest 12 = .ok (.aload_n 0, 1) := by decide +kernel
theorem dX3_readTest_13 : decode cX3_readTest 13 = .ok (.iload_n 2, 1) := by decide +kernel
theorem dX3_readTest_14 : decode cX3_readTest 14 = .ok (.invokevirtual 93, 3) := by decide +kernel
theorem dX3_readTest_17 : decode cX3_readTest 17 = .ok (.ifCond .eq 123, 3) := by decide +kernel
theorem dX3_readTest_20 : decode cX3_readTest 20 = .ok (.aload_n 0, 1) := by decide +kernel
theorem dX3_readTest_21 : decode cX3_readTest 21 = .ok (.aload_n 1, 1) := by decide +kernel
theorem dX3_readTest_22 : decode cX3_readTest 22 = .ok (.iload_n 2, 1) := by decide +kernel
theorem dX3_readTest_23 : decode cX3_readTest 23 = .ok (.iconst 1, 1) := by decide +kernel
theorem dX3_readTest_24 : decode cX3_readTest 24 = .ok (.iadd, 1) := by decide +kernel
theorem dX3_readTest_25 : decode cX3_readTest 25 = .ok (.invokevirtual 90, 3) := by decide +kernel
theorem dX3_readTest_28 : decode cX3_readTest 28 = .ok (.aload_n 1, 1) := by decide +kernel
theorem dX3_readTest_29 : decode cX3_readTest 29 = .ok (.bipush 33, 2) := by decide +kernel
theorem dX3_readTest_31 : decode cX3_readTest 31 = .ok (.iconst 0, 1) := by decide +kernel
theorem dX3_readTest_32 : decode cX3_readTest 32 = .ok (.invokevirtual 83, 3) := by decide +kernel
theorem dX3_readTest_35 : decode cX3_readTest 35 = .ok (.pop, 1) := by decide +kernel
theorem dX3_readTest_36 : decode cX3_readTest 36 = .ok (.goto 104, 3) := by decide +kernel
theorem dX3_readTest_39 : decode cX3_readTest 39 = .ok (.aload_n 0, 1) := by decide +kernel
theorem dX3_readTest_40 : decode cX3_readTest 40 = .ok (.getfield 9, 3) := by decide +kernel
theorem dX3_readTest_43 : decode cX3_readTest 43 = .ok (.bipush 40, 2) := by decide +kernel
theorem dX3_readTest_45 : decode cX3_readTest 45 = .ok (.invokevirtual 80, 3) := by decide +kernel
theorem dX3_readTest_48 : decode cX3_readTest 48 = .ok (.ifCond .eq 32, 3) := by decide +kernel
theorem dX3_readTest_51 : decode cX3_readTest 51 = .ok (.aload_n 0, 1) := by decide +kernel
theorem dX3_readTest_52 : decode cX3_readTest 52 = .ok (.iload_n 2, 1) := by decide +kernel
theorem dX3_readTest_53 : decode cX3_readTest 53 = .ok (.invokevirtual 93, 3) := by decide +kernel
theorem dX3_readTest_56 : decode cX3_readTest 56 = .ok (.ifCond .eq 84, 3) := by decide +kernel
theorem dX3_readTest_59 : decode cX3_readTest 59 = .ok (.aload_n 0, 1) := by decide +kernel
theorem dX3_readTest_60 : decode cX3_readTest 60 = .ok (.aload_n 1, 1) := by decide +kernel
theorem dX3_readTest_61 : decode cX3_readTest 61 = .ok (.iload_n 2, 1) := by decide +kernel
theorem dX3_readTest_62 : decode cX3_readTest 62 = .ok (.iconst 1, 1) := by decide +kernel
theorem dX3_readTest_63 : decode cX3_readTest 63 = .ok (.iadd, 1) := by decide +kernel
theorem dX3_readTest_64 : decode cX3_readTest 64 = .ok (.invokevirtual 68, 3) := by decide +kernel
theorem dX3_readTest_67 : decode cX3_readTest 67 = .ok (.aload_n 0, 1) := by decide +kernel
theorem dX3_readTest_68 : decode cX3_readTest 68 = .ok (.getfield 9, 3) := by decide +kernel
theorem dX3_readTest_71 : decode cX3_readTest 71 = .ok (.bipush 41, 2) := by decide +kernel
theorem dX3_readTest_73 : decode cX3_readTest 73 = .ok (.invokevirtual 65, 3) := by decide +kernel
theorem dX3_readTest_76 : decode cX3_readTest 76 = .ok (.pop, 1) := by decide +kernel
theorem dX3_readTest_77 : decode cX3_readTest 77 = .ok (.goto 63, 3) := by decide +kernel
theorem dX3_readTest_80 : decode cX3_readTest 80 = .ok (.aload_n 0, 1) := by decide +kernel
theorem dX3_readTest_81 : decode cX3_readTest 81 = .ok (.aload_n 1, 1) := by decide +kernel
theorem dX3_readTest_82 : decode cX3_readTest 82 = .ok (.iload_n 2, 1) := by decide +kernel
theorem dX3_readTest_83 : decode cX3_readTest 83 = .ok (.invokevirtual 59, 3) := by decide +kernel
theorem dX3_readTest_86 : decode cX3_readTest 86 = .ok (.aload_n 0, 1) := by decide +kernel
theorem dX3_readTest_87 : decode cX3_readTest 87 = .ok (.getfield 9, 3) := by decide +kernel
theorem dX3_readTest_90 : decode cX3_readTest 90 = .ok (.getfield 30, 3) := by decide +kernel
theorem dX3_readTest_93 : decode cX3_readTest 93 = .ok (.istore_n 3, 1) := by decide +kernel
theorem dX3_readTest_94 : decode cX3_readTest 94 = .ok (.aload_n 0, 1) := by decide +kernel
theorem dX3_readTest_95 : decode cX3_readTest 95 = .ok (.getfield 9, 3) := by decide +kernel
theorem dX3_readTest_98 : decode cX3_readTest 98 = .ok (.invokevirtual 96, 3) := by decide +kernel
theorem dX3_readTest_101 : decode cX3_readTest 101 = .ok (.ifCond .ne 10, 3) := by decide +kernel
theorem dX3_readTest_104 : decode cX3_readTest 104 = .ok (.iload_n 3, 1) := by decide +kernel
theorem dX3_readTest_105 : decode cX3_readTest 105 = .ok (.invokestatic 100, 3) := by decide +kernel
theorem dX3_readTest_108 : decode cX3_readTest 108 = .ok (.ifCond .ne 12, 3) := by decide +kernel
theorem dX3_readTest_111 : decode cX3_readTest 111 = .ok (.aload_n 0, 1) := by decide +kernel
theorem dX3_readTest_112 : decode cX3_readTest 112 = .ok (.getfield 9, 3) := by decide +kernel
theorem dX3_readTest_115 : decode cX3_readTest 115 = .ok (.iconst 1, 1) := by decide +kernel
theorem dX3_readTest_116 : decode cX3_readTest 116 = .ok (.invokevirtual 42, 3) := by decide +kernel
theorem dX3_readTest_119 : decode cX3_readTest 119 = .ok (.return_, 1) := by decide +kernel
theorem dX3_readTest_120 : decode cX3_readTest 120 = .ok (.aload_n 0, 1) := by decide +kernel
theorem dX3_readTest_121 : decode cX3_readTest 121 = .ok (.getfield 9, 3) := by decide +kernel
theorem dX3_readTest_124 : decode cX3_readTest 124 = .ok (.invokevirtual 46, 3) := by decide +kernel
theorem dX3_readTest_127 : decode cX3_readTest 127 = .ok (.aload_n 0, 1) := by decide +kernel
theorem dX3_readTest_128 : decode cX3_readTest 128 = .ok (.aload_n 1, 1) := by decide +kernel
theorem dX3_readTest_129 : decode cX3_readTest 129 = .ok (.iload_n 2, 1) := by decide +kernel
theorem dX3_readTest_130 : decode cX3_readTest 130 = .ok (.invokevirtual 59, 3) := by decide +kernel
theorem dX3_readTest_133 : decode cX3_readTest 133 = .ok (.aload_n 1, 1) := by decide +kernel
theorem dX3_readTest_134 : decode cX3_readTest 134 = .ok (.iload_n 3, 1) := by decide +kernel
theorem dX3_readTest_135 : decode cX3_readTest 135 = .ok (.iconst 0, 1) := by decide +kernel
theorem dX3_readTest_136 : decode cX3_readTest 136 = .ok (.invokevirtual 83, 3) := by decide +kernel
theorem dX3_readTest_139 : decode cX3_readTest 139 = .ok (.pop, 1) := by decide +kernel
theorem dX3_readTest_140 : decode cX3_readTest 140 = .ok (.return_, 1) := by decide +kernel
set_option maxRecDepth 20000 in
theorem ggX3_readSum_X3_readProduct : GoodIn wsX3_readSum wsX3_readProduct := goodIn_r _ [161, 1, 2, 162, 163, 164, 6, 165, 166, 167, 168, 7, 8, 9, 10, 11, 12, 13, 14, 15, 16, 17, 18, 19, 20, 21, 22, 23, 24, 25, 26, 27, 28, 29, 30, 31, 32, 33, 34, 35, 36, 37, 38, 39, 40, 41, 42, 43, 44, 45, 46, 47, 48, 49, 50, 51, 52, 53, 54, 55, 56, 57, 58, 59, 60, 61, 62, 63, 64, 65, 66, 67, 68, 69, 70, 71, 72, 73, 74, 75, 76, 77, 78, 79, 80, 81, 82, 83, 84, 85, 86, 87, 88, 89, 90, 91, 92, 93, 94, 95, 96, 97, 98, 99, 100, 101, 102, 103, 104, 105, 106, 107, 108, 109, 110, 111, 112, 113, 114, 115, 116, 117, 118, 119, 120, 121, 122, 123, 124, 125, 126, 127, 128, 129, 130, 131, 132, 133, 134, 135, 136, 137, 138, 139, 140, 141, 142, 143, 144, 145, 146, 147, 148, 149, 150, 151, 152, 153, 154, 155, 156, 157, 158, 159, 160, 0, 3, 4, 5, 169, 170, 171, 172, 173, 174, 175, 176, 177, 178, 179, 180, 181, 182, 183, 184, 185, 186] (by decide +kernel) (by decide +kernel)
set_option maxRecDepth 20000 in
theorem gX3_readSum_X3_readProduct : GoodIn wsX3_readSum (wsV RX3 105 RX3 yX3_readProduct wsX3_readProduct) := goodIn_app (goodIn_of _ (by decide +kernel)) ggX3_readSum_X3_readProduct
set_option maxRecDepth 20000 in
theorem ggX3_readSum_X1_sees : GoodIn wsX3_readSum wsX1_sees := goodIn_r _ [11, 12, 13, 170, 171, 172, 173, 174] (by decide +kernel) (by decide +kernel)
set_option maxRecDepth 20000 in
theorem gX3_readSum_X1_sees : GoodIn wsX3_readSum (wsV RX3 80 RX1 yX1_sees wsX1_sees) := goodIn_app (goodIn_of _ (by decide +kernel)) ggX3_readSum_X1_sees
set_option maxRecDepth 20000 in
theorem ggX3_readSum_X1_next : GoodIn wsX3_readSum wsX1_next := goodIn_r _ [17, 18, 19, 20, 21, 22, 23, 24, 13, 25, 26, 27, 28, 29, 30, 31, 170, 171, 172, 173, 174, 175, 176] (by decide +kernel) (by decide +kernel)
set_option maxRecDepth 20000 in
theorem gX3_readSum_X1_next : GoodIn wsX3_readSum (wsV RX3 46 RX1 yX1_next wsX1_next) := goodIn_app (goodIn_of _ (by decide +kernel)) ggX3_readSum_X1_next
set_option maxRecDepth 20000 in
theorem ggX3_readSum_X2_put : GoodIn wsX3_readSum wsX2_put := goodIn_r _ [36, 37, 38, 39, 177, 178, 179, 180, 181, 182, 183, 184, 185, 186] (by decide +kernel) (by decide +kernel)
set_option maxRecDepth 20000 in
theorem gX3_readSum_X2_put : GoodIn wsX3_readSum (wsV RX3 83 RX2 yX2_put wsX2_put) := goodIn_app (goodIn_of _ (by decide +kernel)) ggX3_readSum_X2_put
theorem dX3_readSum_0 : decode cX3_readSum 0 = .ok (.aload_n 0, 1) := by decide +kernel
theorem dX3_readSum_1 : decode cX3_readSum 1 = .ok (.aload_n 1, 1) := by decide +kernel
theorem dX3_readSum_2 : decode cX3_readSum 2 = .ok (.iload_n 2, 1) := by decide +kernel
theorem dX3_readSum_3 : decode cX3_readSum 3 = .ok (.invokevirtual 105, 3) := by decide +kernel
theorem dX3_readSum_6 : decode cX3_readSum 6 = .ok (.iconst 1, 1) := by decide +kernel
theorem dX3_readSum_7 : decode cX3_readSum 7 = .ok (.istore_n 3, 1) := by decide +kernel
theorem dX3_readSum_8 : decode cX3_readSum 8 = .ok (.iload_n 3, 1) := by decide +kernel
theorem dX3_readSum_9 : decode cX3_readSum 9 = .ok (.sipush 240, 3) := by decide +kernel
theorem dX3_readSum_12 : decode cX3_readSum 12 = .ok (.if_icmp .ge 63, 3) := by decide +kernel
theorem dX3_readSum_15 : decode cX3_readSum 15 = .ok (.aload_n 0, 1) := by decide +kernel
theorem dX3_readSum_16 : decode cX3_readSum 16 = .ok (.getfield 9, 3) := by decide +kernel
theorem dX3_readSum_19 : decode cX3_readSum 19 = .ok (.bipush 43, 2) := by decide +kernel
theorem dX3_readSum_21 : decode cX3_readSum 21 = .ok (.invokevirtual 80, 3) := by decide +kernel
theorem dX3_readSum_24 : decode cX3_readSum 24 = .ok (.ifCond .ne 15, 3) := by decide +kernel
theorem dX3_readSum_27 : decode cX3_readSum 27 = .ok (.aload_n 0, 1) := by decide +kernel
theorem dX3_readSum_28 : decode cX3_readSum 28 = .ok (.getfield 9, 3) := by decide +kernel
theorem dX3_readSum_31 : decode cX3_readSum 31 = .ok (.bipush 45, 2) := by decide +kernel
theorem dX3_readSum_33 : decode cX3_readSum 33 = .ok (.invokevirtual 80, 3) := by decide +kernel
theorem dX3_readSum_36 : decode cX3_readSum 36 = .ok (.ifCond .eq 39, 3) := by decide +kernel
theorem dX3_readSum_39 : decode cX3_readSum 39 = .ok (.aload_n 0, 1) := by decide +kernel
theorem dX3_readSum_40 : decode cX3_readSum 40 = .ok (.getfield 9, 3) := by decide +kernel
theorem dX3_readSum_43 : decode cX3_readSum 43 = .ok (.getfield 30, 3) := by decide +kernel
theorem dX3_readSum_46 : decode cX3_readSum 46 = .ok (.istore 4, 2) := by decide +kernel
theorem dX3_readSum_48 : decode cX3_readSum 48 = .ok (.aload_n 0, 1) := by decide +kernel
theorem dX3_readSum_49 : decode cX3_readSum 49 = .ok (.getfield 9, 3) := by decide +kernel
theorem dX3_readSum_52 : decode cX3_readSum 52 = .ok (.invokevirtual 46, 3) := by decide +kernel
theorem dX3_readSum_55 : decode cX3_readSum 55 = .ok (.aload_n 0, 1) := by decide +kernel
theorem dX3_readSum_56 : decode cX3_readSum 56 = .ok (.aload_n 1, 1) := by decide +kernel
theorem dX3_readSum_57 : decode cX3_readSum 57 = .ok (.iload_n 2, 1) := by decide +kernel
theorem dX3_readSum_58 : decode cX3_readSum 58 = .ok (.invokevirtual 105, 3) := by decide +kernel
theorem dX3_readSum_61 : decode cX3_readSum 61 = .ok (.aload_n 1, 1) := by decide +kernel
theorem dX3_readSum_62 : decode cX3_readSum 62 = .ok (.iload 4, 2) := by decide +kernel
theorem dX3_readSum_64 : decode cX3_readSum 64 = .ok (.iconst 0, 1) := by decide +kernel
theorem dX3_readSum_65 : decode cX3_readSum 65 = .ok (.invokevirtual 83, 3) := by decide +kernel
theorem dX3_readSum_68 : decode cX3_readSum 68 = .ok (.pop, 1) := by decide +kernel
theorem dX3_readSum_69 : decode cX3_readSum 69 = .ok (.iinc 3 1, 3) := by decide +kernel
theorem dX3_readSum_72 : decode cX3_readSum 72 = .ok (.goto (-64), 3) := by decide +kernel
theorem dX3_readSum_75 : decode cX3_readSum 75 = .ok (.return_, 1) := by decide +kernel
set_option maxRecDepth 20000 in
theorem ggX3_readProduct_X3_readFactor : GoodIn wsX3_readProduct wsX3_readFactor := goodIn_r _ [44, 1, 2, 45, 46, 47, 48, 49, 50, 51, 52, 53, 54, 55, 56, 57, 58, 59, 60, 61, 62, 63, 64, 65, 66, 67, 68, 69, 70, 71, 72, 73, 74, 26, 75, 76, 25, 27, 77, 78, 79, 80, 81, 82, 83, 84, 85, 86, 87, 88, 89, 90, 91, 92, 93, 94, 95, 96, 97, 98, 99, 100, 101, 102, 103, 104, 105, 106, 107, 108, 109, 110, 111, 112, 113, 114, 115, 116, 117, 118, 119, 120, 121, 122, 123, 124, 125, 126, 127, 128, 129, 130, 11, 12, 13, 14, 15, 16, 17, 131, 132, 133, 6, 134, 135, 136, 137, 138, 22, 139, 140, 141, 142, 18, 19, 20, 21, 23, 24, 28, 29, 30, 31, 32, 33, 34, 35, 143, 144, 145, 146, 147, 148, 149, 150, 151, 152, 153, 154, 155, 156, 157, 158, 159, 160, 161, 162, 163, 164, 36, 37, 38, 39, 40, 41, 42, 43, 0, 3, 4, 5, 7, 8, 9, 10, 165, 166, 167, 168, 169, 170, 171, 172, 173, 174, 175, 176, 177, 178, 179, 180, 181, 182, 183, 184, 185, 186] (by decide +kernel) (by decide +kernel)
set_option maxRecDepth 20000 in
theorem gX3_readProduct_X3_readFactor : GoodIn wsX3_readProduct (wsV RX3 108 RX3 yX3_readFactor wsX3_readFactor) := goodIn_app (goodIn_of _ (by decide +kernel)) ggX3_readProduct_X3_readFactor
set_option maxRecDepth 20000 in
theorem ggX3_readProduct_X3_seesTimes : GoodIn wsX3_readProduct wsX3_seesTimes := goodIn_r _ [10, 1, 11, 12, 13, 14, 15, 16, 17, 169, 170, 171, 172, 173, 174] (by decide +kernel) (by decide +kernel)
set_option maxRecDepth 20000 in
theorem gX3_readProduct_X3_seesTimes : GoodIn wsX3_readProduct (wsV RX3 111 RX3 yX3_seesTimes wsX3_seesTimes) := goodIn_app (goodIn_of _ (by decide +kernel)) ggX3_readProduct_X3_seesTimes
set_option maxRecDepth 20000 in
theorem ggX3_readProduct_X1_next : GoodIn wsX3_readProduct wsX1_next := goodIn_r _ [21, 22, 23, 24, 25, 26, 27, 28, 17, 29, 30, 31, 32, 33, 34, 35, 170, 171, 172, 173, 174, 175, 176] (by decide +kernel) (by decide +kernel)
set_option maxRecDepth 20000 in
theorem gX3_readProduct_X1_next : GoodIn wsX3_readProduct (wsV RX3 46 RX1 yX1_next wsX1_next) := goodIn_app (goodIn_of _ (by decide +kernel)) ggX3_readProduct_X1_next
set_option maxRecDepth 20000 in
theorem ggX3_readProduct_X2_put : GoodIn wsX3_readProduct wsX2_put := goodIn_r _ [40, 41, 42, 43, 177, 178, 179, 180, 181, 182, 183, 184, 185, 186] (by decide +kernel) (by decide +kernel)
set_option maxRecDepth 20000 in
theorem gX3_readProduct_X2_put : GoodIn wsX3_readProduct (wsV RX3 83 RX2 yX2_put wsX2_put) := goodIn_app (goodIn_of _ (by decide +kernel)) ggX3_readProduct_X2_put
theorem dX3_readProduct_0 : decode cX3_readProduct 0 = .ok (.aload_n 0, 1) := by decide +kernel
theorem dX3_readProduct_1 : decode cX3_readProduct 1 = .ok (.aload_n 1, 1) := by decide +kernel
theorem dX3_readProduct_2 : decode cX3_readProduct 2 = .ok (.iload_n 2, 1) := by decide +kernel
theorem dX3_readProduct_3 : decode cX3_readProduct 3 = .ok (.invokevirtual 108, 3) := by decide +kernel
theorem dX3_readProduct_6 : decode cX3_readProduct 6 = .ok (.iconst 1, 1) := by decide +kernel
theorem dX3_readProduct_7 : decode cX3_readProduct 7 = .ok (.istore_n 3, 1) := by decide +kernel
theorem dX3_readProduct_8 : decode cX3_readProduct 8 = .ok (.iload_n 3, 1) := by decide +kernel
theorem dX3_readProduct_9 : decode cX3_readProduct 9 = .ok (.sipush 240, 3) := by decide +kernel
theorem dX3_readProduct_12 : decode cX3_readProduct 12 = .ok (.if_icmp .ge 46, 3) := by decide +kernel
theorem dX3_readProduct_15 : decode cX3_readProduct 15 = .ok (.aload_n 0, 1) := by decide +kernel
theorem dX3_readProduct_16 : decode cX3_readProduct 16 = .ok (.invokevirtual 111, 3) := by decide +kernel
theorem dX3_readProduct_19 : decode cX3_readProduct 19 = .ok (.ifCond .eq 39, 3) := by decide +kernel
theorem dX3_readProduct_22 : decode cX3_readProduct 22 = .ok (.aload_n 0, 1) := by decide +kernel
theorem dX3_readProduct_23 : decode cX3_readProduct 23 = .ok (.getfield 9, 3) := by decide +kernel
theorem dX3_readProduct_26 : decode cX3_readProduct 26 = .ok (.getfield 30, 3) := by decide +kernel
theorem dX3_readProduct_29 : decode cX3_readProduct 29 = .ok (.istore 4, 2) := by decide +kernel
theorem dX3_readProduct_31 : decode cX3_readProduct 31 = .ok (.aload_n 0, 1) := by decide +kernel
theorem dX3_readProduct_32 : decode cX3_readProduct 32 = .ok (.getfield 9, 3) := by decide +kernel
theorem dX3_readProduct_35 : decode cX3_readProduct 35 = .ok (.invokevirtual 46, 3) := by decide +kernel
theorem dX3_readProduct_38 : decode cX3_readProduct 38 = .ok (.aload_n 0, 1) := by decide +kernel
theorem dX3_readProduct_39 : decode cX3_readProduct 39 = .ok (.aload_n 1, 1) := by decide +kernel
theorem dX3_readProduct_40 : decode cX3_readProduct 40 = .ok (.iload_n 2, 1) := by decide +kernel
theorem dX3_readProduct_41 : decode cX3_readProduct 41 = .ok (.invokevirtual 108, 3) := by decide +kernel
theorem dX3_readProduct_44 : decode cX3_readProduct 44 = .ok (.aload_n 1, 1) := by decide +kernel
theorem dX3_readProduct_45 : decode cX3_readProduct 45 = .ok (.iload 4, 2) := by decide +kernel
theorem dX3_readProduct_47 : decode cX3_readProduct 47 = .ok (.iconst 0, 1) := by decide +kernel
theorem dX3_readProduct_48 : decode cX3_readProduct 48 = .ok (.invokevirtual 83, 3) := by decide +kernel
theorem dX3_readProduct_51 : decode cX3_readProduct 51 = .ok (.pop, 1) := by decide +kernel
theorem dX3_readProduct_52 : decode cX3_readProduct 52 = .ok (.iinc 3 1, 3) := by decide +kernel
theorem dX3_readProduct_55 : decode cX3_readProduct 55 = .ok (.goto (-47), 3) := by decide +kernel
theorem dX3_readProduct_58 : decode cX3_readProduct 58 = .ok (.return_, 1) := by decide +kernel
set_option maxRecDepth 20000 in
theorem ggX3_seesTimes_X1_sees : GoodIn wsX3_seesTimes wsX1_sees := goodIn_r _ [6, 7, 8, 10, 11, 12, 13, 14] (by decide +kernel) (by decide +kernel)
set_option maxRecDepth 20000 in
theorem gX3_seesTimes_X1_sees : GoodIn wsX3_seesTimes (wsV RX3 80 RX1 yX1_sees wsX1_sees) := goodIn_app (goodIn_of _ (by decide +kernel)) ggX3_seesTimes_X1_sees
theorem dX3_seesTimes_0 : decode cX3_seesTimes 0 = .ok (.aload_n 0, 1) := by decide +kernel
theorem dX3_seesTimes_1 : decode cX3_seesTimes 1 = .ok (.getfield 9, 3) := by decide +kernel
theorem dX3_seesTimes_4 : decode cX3_seesTimes 4 = .ok (.bipush 42, 2) := by decide +kernel
theorem dX3_seesTimes_6 : decode cX3_seesTimes 6 = .ok (.invokevirtual 80, 3) := by decide +kernel
theorem dX3_seesTimes_9 : decode cX3_seesTimes 9 = .ok (.ifCond .ne 27, 3) := by decide +kernel
theorem dX3_seesTimes_12 : decode cX3_seesTimes 12 = .ok (.aload_n 0, 1) := by decide +kernel
theorem dX3_seesTimes_13 : decode cX3_seesTimes 13 = .ok (.getfield 9, 3) := by decide +kernel
theorem dX3_seesTimes_16 : decode cX3_seesTimes 16 = .ok (.bipush 47, 2) := by decide +kernel
theorem dX3_seesTimes_18 : decode cX3_seesTimes 18 = .ok (.invokevirtual 80, 3) := by decide +kernel
theorem dX3_seesTimes_21 : decode cX3_seesTimes 21 = .ok (.ifCond .ne 15, 3) := by decide +kernel
theorem dX3_seesTimes_24 : decode cX3_seesTimes 24 = .ok (.aload_n 0, 1) := by decide +kernel
theorem dX3_seesTimes_25 : decode cX3_seesTimes 25 = .ok (.getfield 9, 3) := by decide +kernel
theorem dX3_seesTimes_28 : decode cX3_seesTimes 28 = .ok (.bipush 37, 2) := by decide +kernel
theorem dX3_seesTimes_30 : decode cX3_seesTimes 30 = .ok (.invokevirtual 80, 3) := by decide +kernel
theorem dX3_seesTimes_33 : decode cX3_seesTimes 33 = .ok (.ifCond .eq 7, 3) := by decide +kernel
theorem dX3_seesTimes_36 : decode cX3_seesTimes 36 = .ok (.iconst 1, 1) := by decide +kernel
theorem dX3_seesTimes_37 : decode cX3_seesTimes 37 = .ok (.goto 4, 3) := by decide +kernel
theorem dX3_seesTimes_40 : decode cX3_seesTimes 40 = .ok (.iconst 0, 1) := by decide +kernel
theorem dX3_seesTimes_41 : decode cX3_seesTimes 41 = .ok (.ireturn, 1) := by decide +kernel
set_option maxRecDepth 20000 in
theorem ggX3_readFactor_J0_indexOf_0f7a4 : GoodIn wsX3_readFactor wsJ0_indexOf_0f7a4 := goodIn_r _ [7, 8, 9, 10, 6, 11, 12, 13, 14, 15, 16, 17, 18, 19, 20, 21, 22, 23, 24, 25, 26, 27, 28, 29, 30, 31, 32, 33, 34, 35, 36, 37, 38, 39, 40, 41, 42, 43, 44, 45, 46, 47, 48, 49, 50, 51, 52, 53, 54, 55, 56, 57, 58, 59, 60, 61, 62, 63, 64, 65, 66, 67, 68, 69, 70, 71, 72, 73, 74, 75, 76, 77, 78, 79, 80, 81, 82, 83, 84, 85, 86, 87, 88, 89, 90, 91] (by decide +kernel) (by decide +kernel)
set_option maxRecDepth 20000 in
theorem gX3_readFactor_J0_indexOf_0f7a4 : GoodIn wsX3_readFactor (wsV RX3 36 RJ0 yJ0_indexOf_0f7a4 wsJ0_indexOf_0f7a4) := goodIn_app (goodIn_of _ (by decide +kernel)) ggX3_readFactor_J0_indexOf_0f7a4
set_option maxRecDepth 20000 in
theorem ggX3_readFactor_X1_sees : GoodIn wsX3_readFactor wsX1_sees := goodIn_r _ [96, 97, 98, 170, 171, 172, 173, 174] (by decide +kernel) (by decide +kernel)
set_option maxRecDepth 20000 in
theorem gX3_readFactor_X1_sees : GoodIn wsX3_readFactor (wsV RX3 80 RX1 yX1_sees wsX1_sees) := goodIn_app (goodIn_of _ (by decide +kernel)) ggX3_readFactor_X1_sees
set_option maxRecDepth 20000 in
theorem ggX3_readFactor_X3_opens : GoodIn wsX3_readFactor wsX3_opens := goodIn_r _ [103, 1, 104, 105, 106, 95, 107, 108, 109, 110, 111, 112, 97, 113, 114, 115, 116, 117, 118, 36, 33, 37, 119, 98, 120, 121, 122, 123, 124, 125, 126, 169, 170, 171, 172, 173, 174, 175, 176] (by decide +kernel) (by decide +kernel)
set_option maxRecDepth 20000 in
theorem gX3_readFactor_X3_opens : GoodIn wsX3_readFactor (wsV RX3 93 RX3 yX3_opens wsX3_opens) := goodIn_app (goodIn_of _ (by decide +kernel)) ggX3_readFactor_X3_opens
set_option maxRecDepth 20000 in
theorem ggX3_readFactor_X3_readSum : GoodIn wsX3_readFactor wsX3_readSum := goodIn_r _ [165, 1, 2, 166, 167, 168, 102, 92, 93, 94, 95, 96, 97, 98, 113, 114, 115, 116, 108, 117, 118, 36, 33, 37, 119, 120, 121, 122, 123, 124, 125, 126, 149, 150, 151, 152, 153, 154, 155, 156, 0, 3, 4, 5, 6, 7, 8, 9, 10, 11, 12, 13, 14, 15, 16, 17, 18, 19, 20, 21, 22, 23, 24, 25, 26, 27, 28, 29, 30, 31, 32, 34, 35, 38, 39, 40, 41, 42, 43, 44, 45, 46, 47, 48, 49, 50, 51, 52, 53, 54, 55, 56, 57, 58, 59, 60, 61, 62, 63, 64, 65, 66, 67, 68, 69, 70, 71, 72, 73, 74, 75, 76, 77, 78, 79, 80, 81, 82, 83, 84, 85, 86, 87, 88, 89, 90, 91, 99, 100, 101, 103, 104, 105, 106, 107, 109, 110, 111, 112, 127, 128, 129, 130, 131, 132, 133, 134, 135, 136, 137, 138, 139, 140, 141, 142, 143, 144, 145, 146, 147, 148, 157, 158, 159, 160, 161, 162, 163, 164, 169, 170, 171, 172, 173, 174, 175, 176, 177, 178, 179, 180, 181, 182, 183, 184, 185, 186] (by decide +kernel) (by decide +kernel)
set_option maxRecDepth 20000 in
theorem gX3_readFactor_X3_readSum : GoodIn wsX3_readFactor (wsV RX3 59 RX3 yX3_readSum wsX3_readSum) := goodIn_app (goodIn_of _ (by decide +kernel)) ggX3_readFactor_X3_readSum
set_option maxRecDepth 20000 in
theorem ggX3_readFactor_X1_take : GoodIn wsX3_readFactor wsX1_take := goodIn_r _ [133, 134, 93, 94, 95, 96, 97, 98, 135, 105, 106, 107, 108, 109, 110, 111, 112, 136, 114, 115, 116, 117, 118, 36, 33, 37, 119, 120, 121, 122, 123, 124, 125, 126, 170, 171, 172, 173, 174, 175, 176] (by decide +kernel) (by decide +kernel)
set_option maxRecDepth 20000 in
theorem gX3_readFactor_X1_take : GoodIn wsX3_readFactor (wsV RX3 65 RX1 yX1_take wsX1_take) := goodIn_app (goodIn_of _ (by decide +kernel)) ggX3_readFactor_X1_take
set_option maxRecDepth 20000 in
theorem ggX3_readFactor_X1_seesDigit : GoodIn wsX3_readFactor wsX1_seesDigit := goodIn_r _ [140, 98, 141, 142, 143, 170, 171, 172, 173, 174] (by decide +kernel) (by decide +kernel)
set_option maxRecDepth 20000 in
theorem gX3_readFactor_X1_seesDigit : GoodIn wsX3_readFactor (wsV RX3 116 RX1 yX1_seesDigit wsX1_seesDigit) := goodIn_app (goodIn_of _ (by decide +kernel)) ggX3_readFactor_X1_seesDigit
set_option maxRecDepth 20000 in
theorem ggX3_readFactor_X1_readNumber : GoodIn wsX3_readFactor wsX1_readNumber := goodIn_r _ [147, 98, 148, 138, 139, 95, 140, 141, 142, 143, 136, 114, 115, 116, 108, 117, 118, 36, 33, 37, 119, 120, 121, 122, 123, 124, 125, 126, 135, 105, 106, 107, 109, 110, 111, 112, 97, 170, 171, 172, 173, 174, 175, 176] (by decide +kernel) (by decide +kernel)
set_option maxRecDepth 20000 in
theorem gX3_readFactor_X1_readNumber : GoodIn wsX3_readFactor (wsV RX3 119 RX1 yX1_readNumber wsX1_readNumber) := goodIn_app (goodIn_of _ (by decide +kernel)) ggX3_readFactor_X1_readNumber
set_option maxRecDepth 20000 in
theorem ggX3_readFactor_X2_put : GoodIn wsX3_readFactor wsX2_put := goodIn_r _ [153, 154, 155, 156, 177, 178, 179, 180, 181, 182, 183, 184, 185, 186] (by decide +kernel) (by decide +kernel)
set_option maxRecDepth 20000 in
theorem gX3_readFactor_X2_put : GoodIn wsX3_readFactor (wsV RX3 83 RX2 yX2_put wsX2_put) := goodIn_app (goodIn_of _ (by decide +kernel)) ggX3_readFactor_X2_put
set_option maxRecDepth 20000 in
theorem ggX3_readFactor_X1_next : GoodIn wsX3_readFactor wsX1_next := goodIn_r _ [116, 108, 117, 118, 36, 33, 37, 119, 98, 120, 121, 122, 123, 124, 125, 126, 170, 171, 172, 173, 174, 175, 176] (by decide +kernel) (by decide +kernel)
set_option maxRecDepth 20000 in
theorem gX3_readFactor_X1_next : GoodIn wsX3_readFactor (wsV RX3 46 RX1 yX1_next wsX1_next) := goodIn_app (goodIn_of _ (by decide +kernel)) ggX3_readFactor_X1_next
set_option maxRecDepth 20000 in
theorem ggX3_readFactor_X1_failHere : GoodIn wsX3_readFactor wsX1_failHere := goodIn_r _ [107, 108, 109, 110, 111, 95, 112, 97, 170, 171, 172, 173, 174] (by decide +kernel) (by decide +kernel)
set_option maxRecDepth 20000 in
theorem gX3_readFactor_X1_failHere : GoodIn wsX3_readFactor (wsV RX3 42 RX1 yX1_failHere wsX1_failHere) := goodIn_app (goodIn_of _ (by decide +kernel)) ggX3_readFactor_X1_failHere
theorem dX3_readFactor_0 : decode cX3_readFactor 0 = .ok (.aload_n 0, 1) := by decide +kernel
theorem dX3_readFactor_1 : decode cX3_readFactor 1 = .ok (.getfield 9, 3) := by decide +kernel
theorem dX3_readFactor_4 : decode cX3_readFactor 4 = .ok (.getfield 30, 3) := by decide +kernel
theorem dX3_readFactor_7 : decode cX3_readFactor 7 = .ok (.istore_n 3, 1) := by decide +kernel
theorem dX3_readFactor_8 : decode cX3_readFactor 8 = .ok (.iload_n 3, 1) := by decide +kernel
theorem dX3_readFactor_9 : decode cX3_readFactor 9 = .ok (.iconst (-1), 1) := by decide +kernel
theorem dX3_readFactor_10 : decode cX3_readFactor 10 = .ok (.if_icmp .ne 7, 3) := by decide +kernel
theorem dX3_readFactor_13 : decode cX3_readFactor 13 = .ok (.iconst (-1), 1) := by decide +kernel
theorem dX3_readFactor_14 : decode cX3_readFactor 14 = .ok (.goto 10, 3) := by decide +kernel
theorem dX3_readFactor_17 : decode cX3_readFactor 17 = .ok (.ldc 114, 2) := by decide +kernel
theorem dX3_readFactor_19 : decode cX3_readFactor 19 = .ok (.iload_n 3, 1) := by decide +kernel
theorem dX3_readFactor_20 : decode cX3_readFactor 20 = .ok (.i2c, 1) := by decide +kernel
theorem dX3_readFactor_21 : decode cX3_readFactor 21 = .ok (.invokevirtual 36, 3) := by decide +kernel
theorem dX3_readFactor_24 : decode cX3_readFactor 24 = .ok (.istore 4, 2) := by decide +kernel
theorem dX3_readFactor_26 : decode cX3_readFactor 26 = .ok (.aload_n 0, 1) := by decide +kernel
theorem dX3_readFactor_27 : decode cX3_readFactor 27 = .ok (.getfield 9, 3) := by decide +kernel
theorem dX3_readFactor_30 : decode cX3_readFactor 30 = .ok (.bipush 91, 2) := by decide +kernel
theorem dX3_readFactor_32 : decode cX3_readFactor 32 = .ok (.invokevirtual 80, 3) := by decide +kernel
theorem dX3_readFactor_35 : decode cX3_readFactor 35 = .ok (.ifCond .eq 32, 3) := by decide +kernel
theorem dX3_readFactor_38 : decode cX3_readFactor 38 = .ok (.aload_n 0, 1) := by decide +kernel
theorem dX3_readFactor_39 : decode cX3_readFactor 39 = .ok (.iload_n 2, 1) := by decide +kernel
theorem dX3_readFactor_40 : decode cX3_readFactor 40 = .ok (.invokevirtual 93, 3) := by decide +kernel
theorem dX3_readFactor_43 : decode cX3_readFactor 43 = .ok (.ifCond .eq 82, 3) := by decide +kernel
theorem dX3_readFactor_46 : decode cX3_readFactor 46 = .ok (.aload_n 0, 1) := by decide +kernel
theorem dX3_readFactor_47 : decode cX3_readFactor 47 = .ok (.aload_n 1, 1) := by decide +kernel
theorem dX3_readFactor_48 : decode cX3_readFactor 48 = .ok (.iload_n 2, 1) := by decide +kernel
theorem dX3_readFactor_49 : decode cX3_readFactor 49 = .ok (.iconst 1, 1) := by decide +kernel
theorem dX3_readFactor_50 : decode cX3_readFactor 50 = .ok (.iadd, 1) := by decide +kernel
theorem dX3_readFactor_51 : decode cX3_readFactor 51 = .ok (.invokevirtual 59, 3) := by decide +kernel
theorem dX3_readFactor_54 : decode cX3_readFactor 54 = .ok (.aload_n 0, 1) := by decide +kernel
theorem dX3_readFactor_55 : decode cX3_readFactor 55 = .ok (.getfield 9, 3) := by decide +kernel
theorem dX3_readFactor_58 : decode cX3_readFactor 58 = .ok (.bipush 93, 2) := by decide +kernel
theorem dX3_readFactor_60 : decode cX3_readFactor 60 = .ok (.invokevirtual 65, 3) := by decide +kernel
theorem dX3_readFactor_63 : decode cX3_readFactor 63 = .ok (.pop, 1) := by decide +kernel
theorem dX3_readFactor_64 : decode cX3_readFactor 64 = .ok (.goto 61, 3) := by decide +kernel
theorem dX3_readFactor_67 : decode cX3_readFactor 67 = .ok (.aload_n 0, 1) := by decide +kernel
theorem dX3_readFactor_68 : decode cX3_readFactor 68 = .ok (.getfield 9, 3) := by decide +kernel
theorem dX3_readFactor_71 : decode cX3_readFactor 71 = .ok (.invokevirtual 116, 3) := by decide +kernel
theorem dX3_readFactor_74 : decode cX3_readFactor 74 = .ok (.ifCond .eq 20, 3) := by decide +kernel
theorem dX3_readFactor_77 : decode cX3_readFactor 77 = .ok (.aload_n 1, 1) := by decide +kernel
theorem dX3_readFactor_78 : decode cX3_readFactor 78 = .ok (.iconst 0, 1) := by decide +kernel
theorem dX3_readFactor_79 : decode cX3_readFactor 79 = .ok (.aload_n 0, 1) := by decide +kernel
theorem dX3_readFactor_80 : decode cX3_readFactor 80 = .ok (.getfield 9, 3) := by decide +kernel
theorem dX3_readFactor_83 : decode cX3_readFactor 83 = .ok (.iconst 5, 1) := by decide +kernel
theorem dX3_readFactor_84 : decode cX3_readFactor 84 = .ok (.invokevirtual 119, 3) := by decide +kernel
theorem dX3_readFactor_87 : decode cX3_readFactor 87 = .ok (.invokevirtual 83, 3) := by decide +kernel
theorem dX3_readFactor_90 : decode cX3_readFactor 90 = .ok (.pop, 1) := by decide +kernel
theorem dX3_readFactor_91 : decode cX3_readFactor 91 = .ok (.goto 34, 3) := by decide +kernel
theorem dX3_readFactor_94 : decode cX3_readFactor 94 = .ok (.iload 4, 2) := by decide +kernel
theorem dX3_readFactor_96 : decode cX3_readFactor 96 = .ok (.ifCond .lt 21, 3) := by decide +kernel
theorem dX3_readFactor_99 : decode cX3_readFactor 99 = .ok (.aload_n 1, 1) := by decide +kernel
theorem dX3_readFactor_100 : decode cX3_readFactor 100 = .ok (.iconst 1, 1) := by decide +kernel
theorem dX3_readFactor_101 : decode cX3_readFactor 101 = .ok (.iload 4, 2) := by decide +kernel
theorem dX3_readFactor_103 : decode cX3_readFactor 103 = .ok (.invokevirtual 83, 3) := by decide +kernel
theorem dX3_readFactor_106 : decode cX3_readFactor 106 = .ok (.pop, 1) := by decide +kernel
theorem dX3_readFactor_107 : decode cX3_readFactor 107 = .ok (.aload_n 0, 1) := by decide +kernel
theorem dX3_readFactor_108 : decode cX3_readFactor 108 = .ok (.getfield 9, 3) := by decide +kernel
theorem dX3_readFactor_111 : decode cX3_readFactor 111 = .ok (.invokevirtual 46, 3) := by decide +kernel
theorem dX3_readFactor_114 : decode cX3_readFactor 114 = .ok (.goto 11, 3) := by decide +kernel
theorem dX3_readFactor_117 : decode cX3_readFactor 117 = .ok (.aload_n 0, 1) := by decide +kernel
theorem dX3_readFactor_118 : decode cX3_readFactor 118 = .ok (.getfield 9, 3) := by decide +kernel
theorem dX3_readFactor_121 : decode cX3_readFactor 121 = .ok (.iconst 1, 1) := by decide +kernel
theorem dX3_readFactor_122 : decode cX3_readFactor 122 = .ok (.invokevirtual 42, 3) := by decide +kernel
theorem dX3_readFactor_125 : decode cX3_readFactor 125 = .ok (.return_, 1) := by decide +kernel
theorem dX4_init_0 : decode cX4_init 0 = .ok (.aload_n 0, 1) := by decide +kernel
theorem dX4_init_1 : decode cX4_init 1 = .ok (.invokespecial 3, 3) := by decide +kernel
theorem dX4_init_4 : decode cX4_init 4 = .ok (.aload_n 0, 1) := by decide +kernel
theorem dX4_init_5 : decode cX4_init 5 = .ok (.bipush 20, 2) := by decide +kernel
theorem dX4_init_7 : decode cX4_init 7 = .ok (.newarray .int, 2) := by decide +kernel
theorem dX4_init_9 : decode cX4_init 9 = .ok (.putfield 11, 3) := by decide +kernel
theorem dX4_init_12 : decode cX4_init 12 = .ok (.aload_n 0, 1) := by decide +kernel
theorem dX4_init_13 : decode cX4_init 13 = .ok (.bipush 20, 2) := by decide +kernel
theorem dX4_init_15 : decode cX4_init 15 = .ok (.newarray .int, 2) := by decide +kernel
theorem dX4_init_17 : decode cX4_init 17 = .ok (.putfield 15, 3) := by decide +kernel
theorem dX4_init_20 : decode cX4_init 20 = .ok (.aload_n 0, 1) := by decide +kernel
theorem dX4_init_21 : decode cX4_init 21 = .ok (.bipush 20, 2) := by decide +kernel
theorem dX4_init_23 : decode cX4_init 23 = .ok (.newarray .int, 2) := by decide +kernel
theorem dX4_init_25 : decode cX4_init 25 = .ok (.putfield 18, 3) := by decide +kernel
theorem dX4_init_28 : decode cX4_init 28 = .ok (.aload_n 0, 1) := by decide +kernel
theorem dX4_init_29 : decode cX4_init 29 = .ok (.iconst 0, 1) := by decide +kernel
theorem dX4_init_30 : decode cX4_init 30 = .ok (.putfield 21, 3) := by decide +kernel
theorem dX4_init_33 : decode cX4_init 33 = .ok (.return_, 1) := by decide +kernel
set_option maxRecDepth 20000 in
theorem ggX4_read_X1_begins : GoodIn wsX4_read wsX1_begins := goodIn_r _ [6, 7, 8, 9, 10, 11, 5, 12, 13, 14, 15, 16, 17, 18, 19, 20, 21, 22, 23, 24, 25, 26, 27, 28, 29, 30, 31, 32, 33, 34, 35, 36, 37, 38, 39, 40, 41, 42, 43, 44, 45, 46, 87, 88, 89, 90, 91, 92, 93] (by decide +kernel) (by decide +kernel)
set_option maxRecDepth 20000 in
theorem gX4_read_X1_begins : GoodIn wsX4_read (wsV RX4 25 RX1 yX1_begins wsX1_begins) := goodIn_app (goodIn_of _ (by decide +kernel)) ggX4_read_X1_begins
set_option maxRecDepth 20000 in
theorem ggX4_read_X4_readLine : GoodIn wsX4_read wsX4_readLine := goodIn_r _ [51, 52, 53, 54, 55, 1, 56, 57, 58, 5, 59, 22, 60, 61, 62, 63, 64, 65, 66, 24, 25, 26, 7, 27, 28, 29, 30, 13, 67, 68, 69, 32, 33, 34, 8, 35, 36, 37, 38, 39, 40, 41, 42, 43, 44, 45, 46, 70, 71, 50, 72, 73, 74, 75, 76, 77, 78, 79, 80, 81, 31, 23, 82, 83, 84, 85, 86, 87, 88, 89, 90, 91, 92, 93] (by decide +kernel) (by decide +kernel)
set_option maxRecDepth 20000 in
theorem gX4_read_X4_readLine : GoodIn wsX4_read (wsV RX4 31 RX4 yX4_readLine wsX4_readLine) := goodIn_app (goodIn_of _ (by decide +kernel)) ggX4_read_X4_readLine
theorem dX4_read_0 : decode cX4_read 0 = .ok (.aload_n 0, 1) := by decide +kernel
theorem dX4_read_1 : decode cX4_read 1 = .ok (.iconst 0, 1) := by decide +kernel
theorem dX4_read_2 : decode cX4_read 2 = .ok (.putfield 21, 3) := by decide +kernel
theorem dX4_read_5 : decode cX4_read 5 = .ok (.iconst 0, 1) := by decide +kernel
theorem dX4_read_6 : decode cX4_read 6 = .ok (.istore_n 3, 1) := by decide +kernel
theorem dX4_read_7 : decode cX4_read 7 = .ok (.iload_n 3, 1) := by decide +kernel
theorem dX4_read_8 : decode cX4_read 8 = .ok (.bipush 20, 2) := by decide +kernel
theorem dX4_read_10 : decode cX4_read 10 = .ok (.if_icmp .gt 24, 3) := by decide +kernel
theorem dX4_read_13 : decode cX4_read 13 = .ok (.aload_n 1, 1) := by decide +kernel
theorem dX4_read_14 : decode cX4_read 14 = .ok (.iload_n 3, 1) := by decide +kernel
theorem dX4_read_15 : decode cX4_read 15 = .ok (.invokevirtual 25, 3) := by decide +kernel
theorem dX4_read_18 : decode cX4_read 18 = .ok (.ifCond .eq 16, 3) := by decide +kernel
theorem dX4_read_21 : decode cX4_read 21 = .ok (.aload_n 0, 1) := by decide +kernel
theorem dX4_read_22 : decode cX4_read 22 = .ok (.aload_n 1, 1) := by decide +kernel
theorem dX4_read_23 : decode cX4_read 23 = .ok (.iload_n 2, 1) := by decide +kernel
theorem dX4_read_24 : decode cX4_read 24 = .ok (.iload_n 3, 1) := by decide +kernel
theorem dX4_read_25 : decode cX4_read 25 = .ok (.invokevirtual 31, 3) := by decide +kernel
theorem dX4_read_28 : decode cX4_read 28 = .ok (.iinc 3 1, 3) := by decide +kernel
theorem dX4_read_31 : decode cX4_read 31 = .ok (.goto (-24), 3) := by decide +kernel
theorem dX4_read_34 : decode cX4_read 34 = .ok (.return_, 1) := by decide +kernel
set_option maxRecDepth 20000 in
theorem ggX4_readLine_X1_seenWalker : GoodIn wsX4_readLine wsX1_seenWalker := goodIn_r _ [10, 11, 12, 13, 14, 15, 16, 17, 67, 68, 69, 70, 71] (by decide +kernel) (by decide +kernel)
set_option maxRecDepth 20000 in
theorem gX4_readLine_X1_seenWalker : GoodIn wsX4_readLine (wsV RX4 35 RX1 yX1_seenWalker wsX1_seenWalker) := goodIn_app (goodIn_of _ (by decide +kernel)) ggX4_readLine_X1_seenWalker
set_option maxRecDepth 20000 in
theorem ggX4_readLine_X1_failHere : GoodIn wsX4_readLine wsX1_failHere := goodIn_r _ [21, 22, 23, 24, 25, 9, 26, 27, 67, 68, 69, 70, 71] (by decide +kernel) (by decide +kernel)
set_option maxRecDepth 20000 in
theorem gX4_readLine_X1_failHere : GoodIn wsX4_readLine (wsV RX4 39 RX1 yX1_failHere wsX1_failHere) := goodIn_app (goodIn_of _ (by decide +kernel)) ggX4_readLine_X1_failHere
set_option maxRecDepth 20000 in
theorem ggX4_readLine_X11_has : GoodIn wsX4_readLine wsX11_has := goodIn_r _ [29] (by decide +kernel) (by decide +kernel)
set_option maxRecDepth 20000 in
theorem gX4_readLine_X11_has_n43 : GoodIn wsX4_readLine (wsX11_has) := ggX4_readLine_X11_has
set_option maxRecDepth 20000 in
theorem ggX4_readLine_X1_next : GoodIn wsX4_readLine wsX1_next := goodIn_r _ [33, 22, 34, 35, 36, 37, 38, 39, 11, 40, 41, 42, 43, 44, 45, 46, 67, 68, 69, 70, 71, 72, 73] (by decide +kernel) (by decide +kernel)
set_option maxRecDepth 20000 in
theorem gX4_readLine_X1_next : GoodIn wsX4_readLine (wsV RX4 47 RX1 yX1_next wsX1_next) := goodIn_app (goodIn_of _ (by decide +kernel)) ggX4_readLine_X1_next
set_option maxRecDepth 20000 in
theorem ggX4_readLine_X4_readDeed : GoodIn wsX4_readLine wsX4_readDeed := goodIn_r _ [50, 3, 51, 18, 19, 20, 9, 21, 22, 23, 24, 25, 26, 27, 30, 31, 32, 33, 34, 35, 36, 37, 38, 39, 11, 40, 41, 42, 43, 44, 45, 46, 52, 53, 54, 55, 56, 57, 58, 59, 16, 13, 17, 60, 61, 62, 67, 68, 69, 70, 71, 72, 73] (by decide +kernel) (by decide +kernel)
set_option maxRecDepth 20000 in
theorem gX4_readLine_X4_readDeed : GoodIn wsX4_readLine (va_wsS RX4 53 yX4_readDeed wsX4_readDeed) := goodIn_app (goodIn_of _ (by decide +kernel)) ggX4_readLine_X4_readDeed
theorem dX4_readLine_0 : decode cX4_readLine 0 = .ok (.aload_n 1, 1) := by decide +kernel
theorem dX4_readLine_1 : decode cX4_readLine 1 = .ok (.invokevirtual 35, 3) := by decide +kernel
theorem dX4_readLine_4 : decode cX4_readLine 4 = .ok (.istore 4, 2) := by decide +kernel
theorem dX4_readLine_6 : decode cX4_readLine 6 = .ok (.iload 4, 2) := by decide +kernel
theorem dX4_readLine_8 : decode cX4_readLine 8 = .ok (.iconst (-1), 1) := by decide +kernel
theorem dX4_readLine_9 : decode cX4_readLine 9 = .ok (.if_icmp .ne 11, 3) := by decide +kernel
theorem dX4_readLine_12 : decode cX4_readLine 12 = .ok (.aload_n 1, 1) := by decide +kernel
theorem dX4_readLine_13 : decode cX4_readLine 13 = .ok (.iconst 1, 1) := by decide +kernel
theorem dX4_readLine_14 : decode cX4_readLine 14 = .ok (.invokevirtual 39, 3) := by decide +kernel
theorem dX4_readLine_17 : decode cX4_readLine 17 = .ok (.goto 74, 3) := by decide +kernel
theorem dX4_readLine_20 : decode cX4_readLine 20 = .ok (.iload_n 3, 1) := by decide +kernel
theorem dX4_readLine_21 : decode cX4_readLine 21 = .ok (.bipush 20, 2) := by decide +kernel
theorem dX4_readLine_23 : decode cX4_readLine 23 = .ok (.if_icmp .lt 11, 3) := by decide +kernel
theorem dX4_readLine_26 : decode cX4_readLine 26 = .ok (.aload_n 1, 1) := by decide +kernel
theorem dX4_readLine_27 : decode cX4_readLine 27 = .ok (.iconst 4, 1) := by decide +kernel
theorem dX4_readLine_28 : decode cX4_readLine 28 = .ok (.invokevirtual 39, 3) := by decide +kernel
theorem dX4_readLine_31 : decode cX4_readLine 31 = .ok (.goto 60, 3) := by decide +kernel
theorem dX4_readLine_34 : decode cX4_readLine 34 = .ok (.iload_n 2, 1) := by decide +kernel
theorem dX4_readLine_35 : decode cX4_readLine 35 = .ok (.iload 4, 2) := by decide +kernel
theorem dX4_readLine_37 : decode cX4_readLine 37 = .ok (.invokestatic 43, 3) := by decide +kernel
theorem dX4_readLine_40 : decode cX4_readLine 40 = .ok (.ifCond .ne 12, 3) := by decide +kernel
theorem dX4_readLine_43 : decode cX4_readLine 43 = .ok (.aload_n 1, 1) := by decide +kernel
theorem dX4_readLine_44 : decode cX4_readLine 44 = .ok (.bipush 7, 2) := by decide +kernel
theorem dX4_readLine_46 : decode cX4_readLine 46 = .ok (.invokevirtual 39, 3) := by decide +kernel
theorem dX4_readLine_49 : decode cX4_readLine 49 = .ok (.goto 42, 3) := by decide +kernel
theorem dX4_readLine_52 : decode cX4_readLine 52 = .ok (.aload_n 1, 1) := by decide +kernel
theorem dX4_readLine_53 : decode cX4_readLine 53 = .ok (.invokevirtual 47, 3) := by decide +kernel
theorem dX4_readLine_56 : decode cX4_readLine 56 = .ok (.aload_n 0, 1) := by decide +kernel
theorem dX4_readLine_57 : decode cX4_readLine 57 = .ok (.getfield 11, 3) := by decide +kernel
theorem dX4_readLine_60 : decode cX4_readLine 60 = .ok (.iload_n 3, 1) := by decide +kernel
theorem dX4_readLine_61 : decode cX4_readLine 61 = .ok (.iload 4, 2) := by decide +kernel
theorem dX4_readLine_63 : decode cX4_readLine 63 = .ok (.iastore, 1) := by decide +kernel
theorem dX4_readLine_64 : decode cX4_readLine 64 = .ok (.aload_n 0, 1) := by decide +kernel
theorem dX4_readLine_65 : decode cX4_readLine 65 = .ok (.getfield 15, 3) := by decide +kernel
theorem dX4_readLine_68 : decode cX4_readLine 68 = .ok (.iload_n 3, 1) := by decide +kernel
theorem dX4_readLine_69 : decode cX4_readLine 69 = .ok (.aload_n 1, 1) := by decide +kernel
theorem dX4_readLine_70 : decode cX4_readLine 70 = .ok (.getfield 50, 3) := by decide +kernel
theorem dX4_readLine_73 : decode cX4_readLine 73 = .ok (.iastore, 1) := by decide +kernel
theorem dX4_readLine_74 : decode cX4_readLine 74 = .ok (.aload_n 0, 1) := by decide +kernel
theorem dX4_readLine_75 : decode cX4_readLine 75 = .ok (.getfield 18, 3) := by decide +kernel
theorem dX4_readLine_78 : decode cX4_readLine 78 = .ok (.iload_n 3, 1) := by decide +kernel
theorem dX4_readLine_79 : decode cX4_readLine 79 = .ok (.aload_n 1, 1) := by decide +kernel
theorem dX4_readLine_80 : decode cX4_readLine 80 = .ok (.invokestatic 53, 3) := by decide +kernel
theorem dX4_readLine_83 : decode cX4_readLine 83 = .ok (.iastore, 1) := by decide +kernel
theorem dX4_readLine_84 : decode cX4_readLine 84 = .ok (.aload_n 0, 1) := by decide +kernel
theorem dX4_readLine_85 : decode cX4_readLine 85 = .ok (.iload_n 3, 1) := by decide +kernel
theorem dX4_readLine_86 : decode cX4_readLine 86 = .ok (.iconst 1, 1) := by decide +kernel
theorem dX4_readLine_87 : decode cX4_readLine 87 = .ok (.iadd, 1) := by decide +kernel
theorem dX4_readLine_88 : decode cX4_readLine 88 = .ok (.putfield 21, 3) := by decide +kernel
theorem dX4_readLine_91 : decode cX4_readLine 91 = .ok (.return_, 1) := by decide +kernel
set_option maxRecDepth 20000 in
theorem ggX4_readDeed_X1_failHere : GoodIn wsX4_readDeed wsX1_failHere := goodIn_r _ [7, 8, 9, 10, 11, 6, 12, 13, 46, 47, 48, 49, 50] (by decide +kernel) (by decide +kernel)
set_option maxRecDepth 20000 in
theorem gX4_readDeed_X1_failHere : GoodIn wsX4_readDeed (wsV RX4 39 RX1 yX1_failHere wsX1_failHere) := goodIn_app (goodIn_of _ (by decide +kernel)) ggX4_readDeed_X1_failHere
set_option maxRecDepth 20000 in
theorem ggX4_readDeed_X1_next : GoodIn wsX4_readDeed wsX1_next := goodIn_r _ [17, 8, 18, 19, 20, 21, 22, 23, 24, 25, 26, 27, 28, 29, 30, 31, 46, 47, 48, 49, 50, 51, 52] (by decide +kernel) (by decide +kernel)
set_option maxRecDepth 20000 in
theorem gX4_readDeed_X1_next : GoodIn wsX4_readDeed (wsV RX4 47 RX1 yX1_next wsX1_next) := goodIn_app (goodIn_of _ (by decide +kernel)) ggX4_readDeed_X1_next
set_option maxRecDepth 20000 in
theorem ggX4_readDeed_X1_readNumber : GoodIn wsX4_readDeed wsX1_readNumber := goodIn_r _ [35, 24, 36, 37, 38, 6, 39, 40, 41, 42, 43, 15, 16, 17, 8, 18, 19, 20, 21, 22, 23, 25, 26, 27, 28, 29, 30, 31, 44, 4, 5, 7, 9, 10, 11, 12, 13, 46, 47, 48, 49, 50, 51, 52] (by decide +kernel) (by decide +kernel)
set_option maxRecDepth 20000 in
theorem gX4_readDeed_X1_readNumber : GoodIn wsX4_readDeed (wsV RX4 60 RX1 yX1_readNumber wsX1_readNumber) := goodIn_app (goodIn_of _ (by decide +kernel)) ggX4_readDeed_X1_readNumber
set_option maxRecDepth 20000 in
theorem ggX4_readDeed_X1_fail : GoodIn wsX4_readDeed wsX1_fail := goodIn_r _ [12, 13, 46, 47, 48, 49, 50] (by decide +kernel) (by decide +kernel)
set_option maxRecDepth 20000 in
theorem gX4_readDeed_X1_fail : GoodIn wsX4_readDeed (wsV RX4 64 RX1 yX1_fail wsX1_fail) := goodIn_app (goodIn_of _ (by decide +kernel)) ggX4_readDeed_X1_fail
theorem dX4_readDeed_0 : decode cX4_readDeed 0 = .ok (.aload_n 0, 1) := by decide +kernel
theorem dX4_readDeed_1 : decode cX4_readDeed 1 = .ok (.getfield 50, 3) := by decide +kernel
theorem dX4_readDeed_4 : decode cX4_readDeed 4 = .ok (.istore_n 1, 1) := by decide +kernel
theorem dX4_readDeed_5 : decode cX4_readDeed 5 = .ok (.iload_n 1, 1) := by decide +kernel
theorem dX4_readDeed_6 : decode cX4_readDeed 6 = .ok (.bipush 61, 2) := by decide +kernel
theorem dX4_readDeed_8 : decode cX4_readDeed 8 = .ok (.if_icmp .eq 9, 3) := by decide +kernel
theorem dX4_readDeed_11 : decode cX4_readDeed 11 = .ok (.iload_n 1, 1) := by decide +kernel
theorem dX4_readDeed_12 : decode cX4_readDeed 12 = .ok (.bipush 63, 2) := by decide +kernel
theorem dX4_readDeed_14 : decode cX4_readDeed 14 = .ok (.if_icmp .ne 7, 3) := by decide +kernel
theorem dX4_readDeed_17 : decode cX4_readDeed 17 = .ok (.iconst 1, 1) := by decide +kernel
theorem dX4_readDeed_18 : decode cX4_readDeed 18 = .ok (.goto 4, 3) := by decide +kernel
theorem dX4_readDeed_21 : decode cX4_readDeed 21 = .ok (.iconst 0, 1) := by decide +kernel
theorem dX4_readDeed_22 : decode cX4_readDeed 22 = .ok (.istore_n 2, 1) := by decide +kernel
theorem dX4_readDeed_23 : decode cX4_readDeed 23 = .ok (.iload_n 1, 1) := by decide +kernel
theorem dX4_readDeed_24 : decode cX4_readDeed 24 = .ok (.bipush 43, 2) := by decide +kernel
theorem dX4_readDeed_26 : decode cX4_readDeed 26 = .ok (.if_icmp .eq 9, 3) := by decide +kernel
theorem dX4_readDeed_29 : decode cX4_readDeed 29 = .ok (.iload_n 1, 1) := by decide +kernel
theorem dX4_readDeed_30 : decode cX4_readDeed 30 = .ok (.bipush 45, 2) := by decide +kernel
theorem dX4_readDeed_32 : decode cX4_readDeed 32 = .ok (.if_icmp .ne 7, 3) := by decide +kernel
theorem dX4_readDeed_35 : decode cX4_readDeed 35 = .ok (.iconst 1, 1) := by decide +kernel
theorem dX4_readDeed_36 : decode cX4_readDeed 36 = .ok (.goto 4, 3) := by decide +kernel
theorem dX4_readDeed_39 : decode cX4_readDeed 39 = .ok (.iconst 0, 1) := by decide +kernel
theorem dX4_readDeed_40 : decode cX4_readDeed 40 = .ok (.istore_n 3, 1) := by decide +kernel
theorem dX4_readDeed_41 : decode cX4_readDeed 41 = .ok (.iload_n 2, 1) := by decide +kernel
theorem dX4_readDeed_42 : decode cX4_readDeed 42 = .ok (.ifCond .ne 26, 3) := by decide +kernel
theorem dX4_readDeed_45 : decode cX4_readDeed 45 = .ok (.iload_n 3, 1) := by decide +kernel
theorem dX4_readDeed_46 : decode cX4_readDeed 46 = .ok (.ifCond .ne 22, 3) := by decide +kernel
theorem dX4_readDeed_49 : decode cX4_readDeed 49 = .ok (.iload_n 1, 1) := by decide +kernel
theorem dX4_readDeed_50 : decode cX4_readDeed 50 = .ok (.bipush 62, 2) := by decide +kernel
theorem dX4_readDeed_52 : decode cX4_readDeed 52 = .ok (.if_icmp .eq 16, 3) := by decide +kernel
theorem dX4_readDeed_55 : decode cX4_readDeed 55 = .ok (.iload_n 1, 1) := by decide +kernel
theorem dX4_readDeed_56 : decode cX4_readDeed 56 = .ok (.bipush 60, 2) := by decide +kernel
theorem dX4_readDeed_58 : decode cX4_readDeed 58 = .ok (.if_icmp .eq 10, 3) := by decide +kernel
theorem dX4_readDeed_61 : decode cX4_readDeed 61 = .ok (.aload_n 0, 1) := by decide +kernel
theorem dX4_readDeed_62 : decode cX4_readDeed 62 = .ok (.iconst 1, 1) := by decide +kernel
theorem dX4_readDeed_63 : decode cX4_readDeed 63 = .ok (.invokevirtual 39, 3) := by decide +kernel
theorem dX4_readDeed_66 : decode cX4_readDeed 66 = .ok (.iconst 0, 1) := by decide +kernel
theorem dX4_readDeed_67 : decode cX4_readDeed 67 = .ok (.ireturn, 1) := by decide +kernel
theorem dX4_readDeed_68 : decode cX4_readDeed 68 = .ok (.aload_n 0, 1) := by decide +kernel
theorem dX4_readDeed_69 : decode cX4_readDeed 69 = .ok (.invokevirtual 47, 3) := by decide +kernel
theorem dX4_readDeed_72 : decode cX4_readDeed 72 = .ok (.iload_n 2, 1) := by decide +kernel
theorem dX4_readDeed_73 : decode cX4_readDeed 73 = .ok (.ifCond .ne 9, 3) := by decide +kernel
theorem dX4_readDeed_76 : decode cX4_readDeed 76 = .ok (.iload_n 3, 1) := by decide +kernel
theorem dX4_readDeed_77 : decode cX4_readDeed 77 = .ok (.ifCond .ne 5, 3) := by decide +kernel
theorem dX4_readDeed_80 : decode cX4_readDeed 80 = .ok (.iconst 0, 1) := by decide +kernel
theorem dX4_readDeed_81 : decode cX4_readDeed 81 = .ok (.ireturn, 1) := by decide +kernel
theorem dX4_readDeed_82 : decode cX4_readDeed 82 = .ok (.aload_n 0, 1) := by decide +kernel
theorem dX4_readDeed_83 : decode cX4_readDeed 83 = .ok (.getfield 57, 3) := by decide +kernel
theorem dX4_readDeed_86 : decode cX4_readDeed 86 = .ok (.istore 4, 2) := by decide +kernel
theorem dX4_readDeed_88 : decode cX4_readDeed 88 = .ok (.aload_n 0, 1) := by decide +kernel
theorem dX4_readDeed_89 : decode cX4_readDeed 89 = .ok (.iconst 3, 1) := by decide +kernel
theorem dX4_readDeed_90 : decode cX4_readDeed 90 = .ok (.invokevirtual 60, 3) := by decide +kernel
theorem dX4_readDeed_93 : decode cX4_readDeed 93 = .ok (.istore 5, 2) := by decide +kernel
theorem dX4_readDeed_95 : decode cX4_readDeed 95 = .ok (.iload_n 2, 1) := by decide +kernel
theorem dX4_readDeed_96 : decode cX4_readDeed 96 = .ok (.ifCond .eq 15, 3) := by decide +kernel
theorem dX4_readDeed_99 : decode cX4_readDeed 99 = .ok (.iload 5, 2) := by decide +kernel
theorem dX4_readDeed_101 : decode cX4_readDeed 101 = .ok (.ifCond .ne 10, 3) := by decide +kernel
theorem dX4_readDeed_104 : decode cX4_readDeed 104 = .ok (.aload_n 0, 1) := by decide +kernel
theorem dX4_readDeed_105 : decode cX4_readDeed 105 = .ok (.iconst 3, 1) := by decide +kernel
theorem dX4_readDeed_106 : decode cX4_readDeed 106 = .ok (.iload 4, 2) := by decide +kernel
theorem dX4_readDeed_108 : decode cX4_readDeed 108 = .ok (.invokevirtual 64, 3) := by decide +kernel
theorem dX4_readDeed_111 : decode cX4_readDeed 111 = .ok (.iload 5, 2) := by decide +kernel
theorem dX4_readDeed_113 : decode cX4_readDeed 113 = .ok (.ireturn, 1) := by decide +kernel
set_option maxRecDepth 20000 in
theorem ggX4_carryOut_X9_changeWeight : GoodIn wsX4_carryOut wsX9_changeWeight := goodIn_r _ [12, 13, 14, 15, 16, 17, 18, 19, 20, 21, 22, 23, 28, 29, 30, 31, 32, 33, 34, 35] (by decide +kernel) (by decide +kernel)
set_option maxRecDepth 20000 in
theorem gX4_carryOut_X9_changeWeight : GoodIn wsX4_carryOut (wsV RX4 76 RX9 yX9_changeWeight wsX9_changeWeight) := goodIn_app (goodIn_of _ (by decide +kernel)) ggX4_carryOut_X9_changeWeight
theorem dX4_carryOut_0 : decode cX4_carryOut 0 = .ok (.iconst 0, 1) := by decide +kernel
theorem dX4_carryOut_1 : decode cX4_carryOut 1 = .ok (.istore_n 2, 1) := by decide +kernel
theorem dX4_carryOut_2 : decode cX4_carryOut 2 = .ok (.iload_n 2, 1) := by decide +kernel
theorem dX4_carryOut_3 : decode cX4_carryOut 3 = .ok (.aload_n 0, 1) := by decide +kernel
theorem dX4_carryOut_4 : decode cX4_carryOut 4 = .ok (.getfield 21, 3) := by decide +kernel
theorem dX4_carryOut_7 : decode cX4_carryOut 7 = .ok (.if_icmp .ge 159, 3) := by decide +kernel
theorem dX4_carryOut_10 : decode cX4_carryOut 10 = .ok (.aload_n 0, 1) := by decide +kernel
theorem dX4_carryOut_11 : decode cX4_carryOut 11 = .ok (.getfield 11, 3) := by decide +kernel
theorem dX4_carryOut_14 : decode cX4_carryOut 14 = .ok (.iload_n 2, 1) := by decide +kernel
theorem dX4_carryOut_15 : decode cX4_carryOut 15 = .ok (.iaload, 1) := by decide +kernel
theorem dX4_carryOut_16 : decode cX4_carryOut 16 = .ok (.istore_n 3, 1) := by decide +kernel
theorem dX4_carryOut_17 : decode cX4_carryOut 17 = .ok (.aload_n 0, 1) := by decide +kernel
theorem dX4_carryOut_18 : decode cX4_carryOut 18 = .ok (.getfield 15, 3) := by decide +kernel
theorem dX4_carryOut_21 : decode cX4_carryOut 21 = .ok (.iload_n 2, 1) := by decide +kernel
theorem dX4_carryOut_22 : decode cX4_carryOut 22 = .ok (.iaload, 1) := by decide +kernel
theorem dX4_carryOut_23 : decode cX4_carryOut 23 = .ok (.lookupswitch 123 #[(43, 79), (45, 93), (61, 49), (62, 108), (63, 64)], 49) := by decide +kernel
theorem dX4_carryOut_72 : decode cX4_carryOut 72 = .ok (.aload_n 1, 1) := by decide +kernel
theorem dX4_carryOut_73 : decode cX4_carryOut 73 = .ok (.getfield 68, 3) := by decide +kernel
theorem dX4_carryOut_76 : decode cX4_carryOut 76 = .ok (.iload_n 3, 1) := by decide +kernel
theorem dX4_carryOut_77 : decode cX4_carryOut 77 = .ok (.aload_n 0, 1) := by decide +kernel
theorem dX4_carryOut_78 : decode cX4_carryOut 78 = .ok (.getfield 18, 3) := by decide +kernel
theorem dX4_carryOut_81 : decode cX4_carryOut 81 = .ok (.iload_n 2, 1) := by decide +kernel
theorem dX4_carryOut_82 : decode cX4_carryOut 82 = .ok (.iaload, 1) := by decide +kernel
theorem dX4_carryOut_83 : decode cX4_carryOut 83 = .ok (.iastore, 1) := by decide +kernel
theorem dX4_carryOut_84 : decode cX4_carryOut 84 = .ok (.goto 76, 3) := by decide +kernel
theorem dX4_carryOut_87 : decode cX4_carryOut 87 = .ok (.aload_n 1, 1) := by decide +kernel
theorem dX4_carryOut_88 : decode cX4_carryOut 88 = .ok (.getfield 73, 3) := by decide +kernel
theorem dX4_carryOut_91 : decode cX4_carryOut 91 = .ok (.iload_n 3, 1) := by decide +kernel
theorem dX4_carryOut_92 : decode cX4_carryOut 92 = .ok (.aload_n 0, 1) := by decide +kernel
theorem dX4_carryOut_93 : decode cX4_carryOut 93 = .ok (.getfield 18, 3) := by decide +kernel
theorem dX4_carryOut_96 : decode cX4_carryOut 96 = .ok (.iload_n 2, 1) := by decide +kernel
theorem dX4_carryOut_97 : decode cX4_carryOut 97 = .ok (.iaload, 1) := by decide +kernel
theorem dX4_carryOut_98 : decode cX4_carryOut 98 = .ok (.iastore, 1) := by decide +kernel
theorem dX4_carryOut_99 : decode cX4_carryOut 99 = .ok (.goto 61, 3) := by decide +kernel
theorem dX4_carryOut_102 : decode cX4_carryOut 102 = .ok (.aload_n 1, 1) := by decide +kernel
theorem dX4_carryOut_103 : decode cX4_carryOut 103 = .ok (.iload_n 3, 1) := by decide +kernel
theorem dX4_carryOut_104 : decode cX4_carryOut 104 = .ok (.aload_n 0, 1) := by decide +kernel
theorem dX4_carryOut_105 : decode cX4_carryOut 105 = .ok (.getfield 18, 3) := by decide +kernel
theorem dX4_carryOut_108 : decode cX4_carryOut 108 = .ok (.iload_n 2, 1) := by decide +kernel
theorem dX4_carryOut_109 : decode cX4_carryOut 109 = .ok (.iaload, 1) := by decide +kernel
theorem dX4_carryOut_110 : decode cX4_carryOut 110 = .ok (.invokevirtual 76, 3) := by decide +kernel
theorem dX4_carryOut_113 : decode cX4_carryOut 113 = .ok (.goto 47, 3) := by decide +kernel
theorem dX4_carryOut_116 : decode cX4_carryOut 116 = .ok (.aload_n 1, 1) := by decide +kernel
theorem dX4_carryOut_117 : decode cX4_carryOut 117 = .ok (.iload_n 3, 1) := by decide +kernel
theorem dX4_carryOut_118 : decode cX4_carryOut 118 = .ok (.aload_n 0, 1) := by decide +kernel
theorem dX4_carryOut_119 : decode cX4_carryOut 119 = .ok (.getfield 18, 3) := by decide +kernel
theorem dX4_carryOut_122 : decode cX4_carryOut 122 = .ok (.iload_n 2, 1) := by decide +kernel
theorem dX4_carryOut_123 : decode cX4_carryOut 123 = .ok (.iaload, 1) := by decide +kernel
theorem dX4_carryOut_124 : decode cX4_carryOut 124 = .ok (.ineg, 1) := by decide +kernel
theorem dX4_carryOut_125 : decode cX4_carryOut 125 = .ok (.invokevirtual 76, 3) := by decide +kernel
theorem dX4_carryOut_128 : decode cX4_carryOut 128 = .ok (.goto 32, 3) := by decide +kernel
theorem dX4_carryOut_131 : decode cX4_carryOut 131 = .ok (.aload_n 1, 1) := by decide +kernel
theorem dX4_carryOut_132 : decode cX4_carryOut 132 = .ok (.dup, 1) := by decide +kernel
theorem dX4_carryOut_133 : decode cX4_carryOut 133 = .ok (.getfield 79, 3) := by decide +kernel
theorem dX4_carryOut_136 : decode cX4_carryOut 136 = .ok (.iconst 1, 1) := by decide +kernel
theorem dX4_carryOut_137 : decode cX4_carryOut 137 = .ok (.iload_n 3, 1) := by decide +kernel
theorem dX4_carryOut_138 : decode cX4_carryOut 138 = .ok (.ishl, 1) := by decide +kernel
theorem dX4_carryOut_139 : decode cX4_carryOut 139 = .ok (.ior, 1) := by decide +kernel
theorem dX4_carryOut_140 : decode cX4_carryOut 140 = .ok (.putfield 79, 3) := by decide +kernel
theorem dX4_carryOut_143 : decode cX4_carryOut 143 = .ok (.goto 17, 3) := by decide +kernel
theorem dX4_carryOut_146 : decode cX4_carryOut 146 = .ok (.aload_n 1, 1) := by decide +kernel
theorem dX4_carryOut_147 : decode cX4_carryOut 147 = .ok (.dup, 1) := by decide +kernel
theorem dX4_carryOut_148 : decode cX4_carryOut 148 = .ok (.getfield 79, 3) := by decide +kernel
theorem dX4_carryOut_151 : decode cX4_carryOut 151 = .ok (.iconst 1, 1) := by decide +kernel
theorem dX4_carryOut_152 : decode cX4_carryOut 152 = .ok (.iload_n 3, 1) := by decide +kernel
theorem dX4_carryOut_153 : decode cX4_carryOut 153 = .ok (.ishl, 1) := by decide +kernel
theorem dX4_carryOut_154 : decode cX4_carryOut 154 = .ok (.iconst (-1), 1) := by decide +kernel
theorem dX4_carryOut_155 : decode cX4_carryOut 155 = .ok (.ixor, 1) := by decide +kernel
theorem dX4_carryOut_156 : decode cX4_carryOut 156 = .ok (.iand, 1) := by decide +kernel
theorem dX4_carryOut_157 : decode cX4_carryOut 157 = .ok (.putfield 79, 3) := by decide +kernel
theorem dX4_carryOut_160 : decode cX4_carryOut 160 = .ok (.iinc 2 1, 3) := by decide +kernel
theorem dX4_carryOut_163 : decode cX4_carryOut 163 = .ok (.goto (-161), 3) := by decide +kernel
theorem dX4_carryOut_166 : decode cX4_carryOut 166 = .ok (.return_, 1) := by decide +kernel
theorem dX5_init_0 : decode cX5_init 0 = .ok (.aload_n 0, 1) := by decide +kernel
theorem dX5_init_1 : decode cX5_init 1 = .ok (.invokespecial 5, 3) := by decide +kernel
theorem dX5_init_4 : decode cX5_init 4 = .ok (.aload_n 0, 1) := by decide +kernel
theorem dX5_init_5 : decode cX5_init 5 = .ok (.bipush 16, 2) := by decide +kernel
theorem dX5_init_7 : decode cX5_init 7 = .ok (.newarray .int, 2) := by decide +kernel
theorem dX5_init_9 : decode cX5_init 9 = .ok (.putfield 11, 3) := by decide +kernel
theorem dX5_init_12 : decode cX5_init 12 = .ok (.aload_n 0, 1) := by decide +kernel
theorem dX5_init_13 : decode cX5_init 13 = .ok (.bipush 16, 2) := by decide +kernel
theorem dX5_init_15 : decode cX5_init 15 = .ok (.newarray .int, 2) := by decide +kernel
theorem dX5_init_17 : decode cX5_init 17 = .ok (.putfield 15, 3) := by decide +kernel
theorem dX5_init_20 : decode cX5_init 20 = .ok (.aload_n 0, 1) := by decide +kernel
theorem dX5_init_21 : decode cX5_init 21 = .ok (.bipush 32, 2) := by decide +kernel
theorem dX5_init_23 : decode cX5_init 23 = .ok (.newarray .long, 2) := by decide +kernel
theorem dX5_init_25 : decode cX5_init 25 = .ok (.putfield 18, 3) := by decide +kernel
theorem dX5_init_28 : decode cX5_init 28 = .ok (.aload_n 0, 1) := by decide +kernel
theorem dX5_init_29 : decode cX5_init 29 = .ok (.iconst 0, 1) := by decide +kernel
theorem dX5_init_30 : decode cX5_init 30 = .ok (.putfield 22, 3) := by decide +kernel
theorem dX5_init_33 : decode cX5_init 33 = .ok (.aload_n 0, 1) := by decide +kernel
theorem dX5_init_34 : decode cX5_init 34 = .ok (.iconst 0, 1) := by decide +kernel
theorem dX5_init_35 : decode cX5_init 35 = .ok (.putfield 26, 3) := by decide +kernel
theorem dX5_init_38 : decode cX5_init 38 = .ok (.return_, 1) := by decide +kernel
set_option maxRecDepth 20000 in
theorem ggX5_take_X8_at : GoodIn wsX5_take wsX8_at := goodIn_r _ [11, 12, 13, 23, 24] (by decide +kernel) (by decide +kernel)
set_option maxRecDepth 20000 in
theorem gX5_take_X8_at : GoodIn wsX5_take (wsV RX5 35 RX8 yX8_at wsX8_at) := goodIn_app (goodIn_of _ (by decide +kernel)) ggX5_take_X8_at
set_option maxRecDepth 20000 in
theorem ggX5_take_X8_clear : GoodIn wsX5_take wsX8_clear := goodIn_r _ [17, 12, 23, 24] (by decide +kernel) (by decide +kernel)
set_option maxRecDepth 20000 in
theorem gX5_take_X8_clear : GoodIn wsX5_take (wsV RX5 41 RX8 yX8_clear wsX8_clear) := goodIn_app (goodIn_of _ (by decide +kernel)) ggX5_take_X8_clear
theorem dX5_take_0 : decode cX5_take 0 = .ok (.aload_n 0, 1) := by decide +kernel
theorem dX5_take_1 : decode cX5_take 1 = .ok (.iload_n 2, 1) := by decide +kernel
theorem dX5_take_2 : decode cX5_take 2 = .ok (.bipush 16, 2) := by decide +kernel
theorem dX5_take_4 : decode cX5_take 4 = .ok (.invokestatic 29, 3) := by decide +kernel
theorem dX5_take_7 : decode cX5_take 7 = .ok (.putfield 22, 3) := by decide +kernel
theorem dX5_take_10 : decode cX5_take 10 = .ok (.iconst 0, 1) := by decide +kernel
theorem dX5_take_11 : decode cX5_take 11 = .ok (.istore_n 3, 1) := by decide +kernel
theorem dX5_take_12 : decode cX5_take 12 = .ok (.iload_n 3, 1) := by decide +kernel
theorem dX5_take_13 : decode cX5_take 13 = .ok (.aload_n 0, 1) := by decide +kernel
theorem dX5_take_14 : decode cX5_take 14 = .ok (.getfield 22, 3) := by decide +kernel
theorem dX5_take_17 : decode cX5_take 17 = .ok (.if_icmp .ge 20, 3) := by decide +kernel
theorem dX5_take_20 : decode cX5_take 20 = .ok (.aload_n 0, 1) := by decide +kernel
theorem dX5_take_21 : decode cX5_take 21 = .ok (.getfield 11, 3) := by decide +kernel
theorem dX5_take_24 : decode cX5_take 24 = .ok (.iload_n 3, 1) := by decide +kernel
theorem dX5_take_25 : decode cX5_take 25 = .ok (.aload_n 1, 1) := by decide +kernel
theorem dX5_take_26 : decode cX5_take 26 = .ok (.iload_n 3, 1) := by decide +kernel
theorem dX5_take_27 : decode cX5_take 27 = .ok (.invokevirtual 35, 3) := by decide +kernel
theorem dX5_take_30 : decode cX5_take 30 = .ok (.iastore, 1) := by decide +kernel
theorem dX5_take_31 : decode cX5_take 31 = .ok (.iinc 3 1, 3) := by decide +kernel
theorem dX5_take_34 : decode cX5_take 34 = .ok (.goto (-22), 3) := by decide +kernel
theorem dX5_take_37 : decode cX5_take 37 = .ok (.aload_n 1, 1) := by decide +kernel
theorem dX5_take_38 : decode cX5_take 38 = .ok (.invokevirtual 41, 3) := by decide +kernel
theorem dX5_take_41 : decode cX5_take 41 = .ok (.return_, 1) := by decide +kernel
theorem dX5_hasZero_0 : decode cX5_hasZero 0 = .ok (.iconst 0, 1) := by decide +kernel
theorem dX5_hasZero_1 : decode cX5_hasZero 1 = .ok (.istore_n 1, 1) := by decide +kernel
theorem dX5_hasZero_2 : decode cX5_hasZero 2 = .ok (.iload_n 1, 1) := by decide +kernel
theorem dX5_hasZero_3 : decode cX5_hasZero 3 = .ok (.aload_n 0, 1) := by decide +kernel
theorem dX5_hasZero_4 : decode cX5_hasZero 4 = .ok (.getfield 22, 3) := by decide +kernel
theorem dX5_hasZero_7 : decode cX5_hasZero 7 = .ok (.if_icmp .ge 20, 3) := by decide +kernel
theorem dX5_hasZero_10 : decode cX5_hasZero 10 = .ok (.aload_n 0, 1) := by decide +kernel
theorem dX5_hasZero_11 : decode cX5_hasZero 11 = .ok (.getfield 11, 3) := by decide +kernel
theorem dX5_hasZero_14 : decode cX5_hasZero 14 = .ok (.iload_n 1, 1) := by decide +kernel
theorem dX5_hasZero_15 : decode cX5_hasZero 15 = .ok (.iaload, 1) := by decide +kernel
theorem dX5_hasZero_16 : decode cX5_hasZero 16 = .ok (.ifCond .ne 5, 3) := by decide +kernel
theorem dX5_hasZero_19 : decode cX5_hasZero 19 = .ok (.iconst 1, 1) := by decide +kernel
theorem dX5_hasZero_20 : decode cX5_hasZero 20 = .ok (.ireturn, 1) := by decide +kernel
theorem dX5_hasZero_21 : decode cX5_hasZero 21 = .ok (.iinc 1 1, 3) := by decide +kernel
theorem dX5_hasZero_24 : decode cX5_hasZero 24 = .ok (.goto (-22), 3) := by decide +kernel
theorem dX5_hasZero_27 : decode cX5_hasZero 27 = .ok (.iconst 0, 1) := by decide +kernel
theorem dX5_hasZero_28 : decode cX5_hasZero 28 = .ok (.ireturn, 1) := by decide +kernel
set_option maxRecDepth 20000 in
theorem ggX5_weighsUpTo_J7_fill_d0a16 : GoodIn wsX5_weighsUpTo wsJ7_fill_d0a16 := goodIn_r _ [5] (by decide +kernel) (by decide +kernel)
set_option maxRecDepth 20000 in
theorem gX5_weighsUpTo_J7_fill_d0a16 : GoodIn wsX5_weighsUpTo (va_wsS RX5 44 yJ7_fill_d0a16 wsJ7_fill_d0a16) := goodIn_app (goodIn_of _ (by decide +kernel)) ggX5_weighsUpTo_J7_fill_d0a16
set_option maxRecDepth 20000 in
theorem ggX5_weighsUpTo_X5_markFrom : GoodIn wsX5_weighsUpTo wsX5_markFrom := goodIn_r _ [10, 11, 12, 13, 14, 15, 16, 17, 18, 1, 19, 6, 7, 8, 9, 20, 21, 22, 23, 24] (by decide +kernel) (by decide +kernel)
set_option maxRecDepth 20000 in
theorem gX5_weighsUpTo_X5_markFrom : GoodIn wsX5_weighsUpTo (wsV RX5 50 RX5 yX5_markFrom wsX5_markFrom) := goodIn_app (goodIn_of _ (by decide +kernel)) ggX5_weighsUpTo_X5_markFrom
theorem dX5_weighsUpTo_0 : decode cX5_weighsUpTo 0 = .ok (.aload_n 0, 1) := by decide +kernel
theorem dX5_weighsUpTo_1 : decode cX5_weighsUpTo 1 = .ok (.getfield 18, 3) := by decide +kernel
theorem dX5_weighsUpTo_4 : decode cX5_weighsUpTo 4 = .ok (.lconst 0, 1) := by decide +kernel
theorem dX5_weighsUpTo_5 : decode cX5_weighsUpTo 5 = .ok (.invokestatic 44, 3) := by decide +kernel
theorem dX5_weighsUpTo_8 : decode cX5_weighsUpTo 8 = .ok (.aload_n 0, 1) := by decide +kernel
theorem dX5_weighsUpTo_9 : decode cX5_weighsUpTo 9 = .ok (.iconst 0, 1) := by decide +kernel
theorem dX5_weighsUpTo_10 : decode cX5_weighsUpTo 10 = .ok (.iconst 0, 1) := by decide +kernel
theorem dX5_weighsUpTo_11 : decode cX5_weighsUpTo 11 = .ok (.iload_n 1, 1) := by decide +kernel
theorem dX5_weighsUpTo_12 : decode cX5_weighsUpTo 12 = .ok (.invokevirtual 50, 3) := by decide +kernel
theorem dX5_weighsUpTo_15 : decode cX5_weighsUpTo 15 = .ok (.iconst 0, 1) := by decide +kernel
theorem dX5_weighsUpTo_16 : decode cX5_weighsUpTo 16 = .ok (.istore_n 2, 1) := by decide +kernel
theorem dX5_weighsUpTo_17 : decode cX5_weighsUpTo 17 = .ok (.iload_n 2, 1) := by decide +kernel
theorem dX5_weighsUpTo_18 : decode cX5_weighsUpTo 18 = .ok (.sipush 2040, 3) := by decide +kernel
theorem dX5_weighsUpTo_21 : decode cX5_weighsUpTo 21 = .ok (.if_icmp .ge 34, 3) := by decide +kernel
theorem dX5_weighsUpTo_24 : decode cX5_weighsUpTo 24 = .ok (.aload_n 0, 1) := by decide +kernel
theorem dX5_weighsUpTo_25 : decode cX5_weighsUpTo 25 = .ok (.getfield 18, 3) := by decide +kernel
theorem dX5_weighsUpTo_28 : decode cX5_weighsUpTo 28 = .ok (.iload_n 2, 1) := by decide +kernel
theorem dX5_weighsUpTo_29 : decode cX5_weighsUpTo 29 = .ok (.iconst 1, 1) := by decide +kernel
theorem dX5_weighsUpTo_30 : decode cX5_weighsUpTo 30 = .ok (.iadd, 1) := by decide +kernel
theorem dX5_weighsUpTo_31 : decode cX5_weighsUpTo 31 = .ok (.bipush 64, 2) := by decide +kernel
theorem dX5_weighsUpTo_33 : decode cX5_weighsUpTo 33 = .ok (.idiv, 1) := by decide +kernel
theorem dX5_weighsUpTo_34 : decode cX5_weighsUpTo 34 = .ok (.laload, 1) := by decide +kernel
theorem dX5_weighsUpTo_35 : decode cX5_weighsUpTo 35 = .ok (.iload_n 2, 1) := by decide +kernel
theorem dX5_weighsUpTo_36 : decode cX5_weighsUpTo 36 = .ok (.iconst 1, 1) := by decide +kernel
theorem dX5_weighsUpTo_37 : decode cX5_weighsUpTo 37 = .ok (.iadd, 1) := by decide +kernel
theorem dX5_weighsUpTo_38 : decode cX5_weighsUpTo 38 = .ok (.bipush 64, 2) := by decide +kernel
theorem dX5_weighsUpTo_40 : decode cX5_weighsUpTo 40 = .ok (.irem, 1) := by decide +kernel
theorem dX5_weighsUpTo_41 : decode cX5_weighsUpTo 41 = .ok (.lshr, 1) := by decide +kernel
theorem dX5_weighsUpTo_42 : decode cX5_weighsUpTo 42 = .ok (.lconst 1, 1) := by decide +kernel
theorem dX5_weighsUpTo_43 : decode cX5_weighsUpTo 43 = .ok (.land, 1) := by decide +kernel
theorem dX5_weighsUpTo_44 : decode cX5_weighsUpTo 44 = .ok (.lconst 0, 1) := by decide +kernel
theorem dX5_weighsUpTo_45 : decode cX5_weighsUpTo 45 = .ok (.lcmp, 1) := by decide +kernel
theorem dX5_weighsUpTo_46 : decode cX5_weighsUpTo 46 = .ok (.ifCond .eq 9, 3) := by decide +kernel
theorem dX5_weighsUpTo_49 : decode cX5_weighsUpTo 49 = .ok (.iinc 2 1, 3) := by decide +kernel
theorem dX5_weighsUpTo_52 : decode cX5_weighsUpTo 52 = .ok (.goto (-35), 3) := by decide +kernel
theorem dX5_weighsUpTo_55 : decode cX5_weighsUpTo 55 = .ok (.iload_n 2, 1) := by decide +kernel
theorem dX5_weighsUpTo_56 : decode cX5_weighsUpTo 56 = .ok (.ireturn, 1) := by decide +kernel
set_option maxRecDepth 20000 in
theorem ggX5_markFrom_X5_markFrom : GoodIn wsX5_markFrom wsX5_markFrom := goodIn_r _ [0, 1, 2, 3, 4, 5, 6, 7, 8, 9, 10, 11, 12, 13, 14, 15, 16, 17, 18, 19] (by decide +kernel) (by decide +kernel)
set_option maxRecDepth 20000 in
theorem gX5_markFrom_X5_markFrom : GoodIn wsX5_markFrom (wsV RX5 50 RX5 yX5_markFrom wsX5_markFrom) := goodIn_app (goodIn_of _ (by decide +kernel)) ggX5_markFrom_X5_markFrom
theorem dX5_markFrom_0 : decode cX5_markFrom 0 = .ok (.iload_n 1, 1) := by decide +kernel
theorem dX5_markFrom_1 : decode cX5_markFrom 1 = .ok (.aload_n 0, 1) := by decide +kernel
theorem dX5_markFrom_2 : decode cX5_markFrom 2 = .ok (.getfield 22, 3) := by decide +kernel
theorem dX5_markFrom_5 : decode cX5_markFrom 5 = .ok (.if_icmp .ge 9, 3) := by decide +kernel
theorem dX5_markFrom_8 : decode cX5_markFrom 8 = .ok (.iload_n 1, 1) := by decide +kernel
theorem dX5_markFrom_9 : decode cX5_markFrom 9 = .ok (.bipush 8, 2) := by decide +kernel
theorem dX5_markFrom_11 : decode cX5_markFrom 11 = .ok (.if_icmp .lt 36, 3) := by decide +kernel
theorem dX5_markFrom_14 : decode cX5_markFrom 14 = .ok (.iload_n 2, 1) := by decide +kernel
theorem dX5_markFrom_15 : decode cX5_markFrom 15 = .ok (.invokestatic 54, 3) := by decide +kernel
theorem dX5_markFrom_18 : decode cX5_markFrom 18 = .ok (.sipush 2040, 3) := by decide +kernel
theorem dX5_markFrom_21 : decode cX5_markFrom 21 = .ok (.invokestatic 29, 3) := by decide +kernel
theorem dX5_markFrom_24 : decode cX5_markFrom 24 = .ok (.istore 4, 2) := by decide +kernel
theorem dX5_markFrom_26 : decode cX5_markFrom 26 = .ok (.aload_n 0, 1) := by decide +kernel
theorem dX5_markFrom_27 : decode cX5_markFrom 27 = .ok (.getfield 18, 3) := by decide +kernel
theorem dX5_markFrom_30 : decode cX5_markFrom 30 = .ok (.iload 4, 2) := by decide +kernel
theorem dX5_markFrom_32 : decode cX5_markFrom 32 = .ok (.bipush 64, 2) := by decide +kernel
theorem dX5_markFrom_34 : decode cX5_markFrom 34 = .ok (.idiv, 1) := by decide +kernel
theorem dX5_markFrom_35 : decode cX5_markFrom 35 = .ok (.dup2, 1) := by decide +kernel
theorem dX5_markFrom_36 : decode cX5_markFrom 36 = .ok (.laload, 1) := by decide +kernel
theorem dX5_markFrom_37 : decode cX5_markFrom 37 = .ok (.lconst 1, 1) := by decide +kernel
theorem dX5_markFrom_38 : decode cX5_markFrom 38 = .ok (.iload 4, 2) := by decide +kernel
theorem dX5_markFrom_40 : decode cX5_markFrom 40 = .ok (.bipush 64, 2) := by decide +kernel
theorem dX5_markFrom_42 : decode cX5_markFrom 42 = .ok (.irem, 1) := by decide +kernel
theorem dX5_markFrom_43 : decode cX5_markFrom 43 = .ok (.lshl, 1) := by decide +kernel
theorem dX5_markFrom_44 : decode cX5_markFrom 44 = .ok (.lor, 1) := by decide +kernel
theorem dX5_markFrom_45 : decode cX5_markFrom 45 = .ok (.lastore, 1) := by decide +kernel
theorem dX5_markFrom_46 : decode cX5_markFrom 46 = .ok (.return_, 1) := by decide +kernel
theorem dX5_markFrom_47 : decode cX5_markFrom 47 = .ok (.aload_n 0, 1) := by decide +kernel
theorem dX5_markFrom_48 : decode cX5_markFrom 48 = .ok (.iload_n 1, 1) := by decide +kernel
theorem dX5_markFrom_49 : decode cX5_markFrom 49 = .ok (.iconst 1, 1) := by decide +kernel
theorem dX5_markFrom_50 : decode cX5_markFrom 50 = .ok (.iadd, 1) := by decide +kernel
theorem dX5_markFrom_51 : decode cX5_markFrom 51 = .ok (.iload_n 2, 1) := by decide +kernel
theorem dX5_markFrom_52 : decode cX5_markFrom 52 = .ok (.iload_n 3, 1) := by decide +kernel
theorem dX5_markFrom_53 : decode cX5_markFrom 53 = .ok (.invokevirtual 50, 3) := by decide +kernel
theorem dX5_markFrom_56 : decode cX5_markFrom 56 = .ok (.aload_n 0, 1) := by decide +kernel
theorem dX5_markFrom_57 : decode cX5_markFrom 57 = .ok (.iload_n 1, 1) := by decide +kernel
theorem dX5_markFrom_58 : decode cX5_markFrom 58 = .ok (.iconst 1, 1) := by decide +kernel
theorem dX5_markFrom_59 : decode cX5_markFrom 59 = .ok (.iadd, 1) := by decide +kernel
theorem dX5_markFrom_60 : decode cX5_markFrom 60 = .ok (.iload_n 2, 1) := by decide +kernel
theorem dX5_markFrom_61 : decode cX5_markFrom 61 = .ok (.aload_n 0, 1) := by decide +kernel
theorem dX5_markFrom_62 : decode cX5_markFrom 62 = .ok (.getfield 11, 3) := by decide +kernel
theorem dX5_markFrom_65 : decode cX5_markFrom 65 = .ok (.iload_n 1, 1) := by decide +kernel
theorem dX5_markFrom_66 : decode cX5_markFrom 66 = .ok (.iaload, 1) := by decide +kernel
theorem dX5_markFrom_67 : decode cX5_markFrom 67 = .ok (.iadd, 1) := by decide +kernel
theorem dX5_markFrom_68 : decode cX5_markFrom 68 = .ok (.iload_n 3, 1) := by decide +kernel
theorem dX5_markFrom_69 : decode cX5_markFrom 69 = .ok (.invokevirtual 50, 3) := by decide +kernel
theorem dX5_markFrom_72 : decode cX5_markFrom 72 = .ok (.iload_n 3, 1) := by decide +kernel
theorem dX5_markFrom_73 : decode cX5_markFrom 73 = .ok (.ifCond .eq 19, 3) := by decide +kernel
theorem dX5_markFrom_76 : decode cX5_markFrom 76 = .ok (.aload_n 0, 1) := by decide +kernel
theorem dX5_markFrom_77 : decode cX5_markFrom 77 = .ok (.iload_n 1, 1) := by decide +kernel
theorem dX5_markFrom_78 : decode cX5_markFrom 78 = .ok (.iconst 1, 1) := by decide +kernel
theorem dX5_markFrom_79 : decode cX5_markFrom 79 = .ok (.iadd, 1) := by decide +kernel
theorem dX5_markFrom_80 : decode cX5_markFrom 80 = .ok (.iload_n 2, 1) := by decide +kernel
theorem dX5_markFrom_81 : decode cX5_markFrom 81 = .ok (.aload_n 0, 1) := by decide +kernel
theorem dX5_markFrom_82 : decode cX5_markFrom 82 = .ok (.getfield 11, 3) := by decide +kernel
theorem dX5_markFrom_85 : decode cX5_markFrom 85 = .ok (.iload_n 1, 1) := by decide +kernel
theorem dX5_markFrom_86 : decode cX5_markFrom 86 = .ok (.iaload, 1) := by decide +kernel
theorem dX5_markFrom_87 : decode cX5_markFrom 87 = .ok (.isub, 1) := by decide +kernel
theorem dX5_markFrom_88 : decode cX5_markFrom 88 = .ok (.iload_n 3, 1) := by decide +kernel
theorem dX5_markFrom_89 : decode cX5_markFrom 89 = .ok (.invokevirtual 50, 3) := by decide +kernel
theorem dX5_markFrom_92 : decode cX5_markFrom 92 = .ok (.return_, 1) := by decide +kernel
set_option maxRecDepth 20000 in
theorem ggX5_fewestFor_X5_tryStones : GoodIn wsX5_fewestFor wsX5_tryStones := goodIn_r _ [6, 1, 7, 8, 9, 10, 11, 12, 2, 3, 4, 5, 13, 14, 15, 16, 17] (by decide +kernel) (by decide +kernel)
set_option maxRecDepth 20000 in
theorem gX5_fewestFor_X5_tryStones : GoodIn wsX5_fewestFor (wsV RX5 57 RX5 yX5_tryStones wsX5_tryStones) := goodIn_app (goodIn_of _ (by decide +kernel)) ggX5_fewestFor_X5_tryStones
theorem dX5_fewestFor_0 : decode cX5_fewestFor 0 = .ok (.aload_n 0, 1) := by decide +kernel
theorem dX5_fewestFor_1 : decode cX5_fewestFor 1 = .ok (.bipush 9, 2) := by decide +kernel
theorem dX5_fewestFor_3 : decode cX5_fewestFor 3 = .ok (.putfield 26, 3) := by decide +kernel
theorem dX5_fewestFor_6 : decode cX5_fewestFor 6 = .ok (.aload_n 0, 1) := by decide +kernel
theorem dX5_fewestFor_7 : decode cX5_fewestFor 7 = .ok (.iconst 0, 1) := by decide +kernel
theorem dX5_fewestFor_8 : decode cX5_fewestFor 8 = .ok (.iload_n 1, 1) := by decide +kernel
theorem dX5_fewestFor_9 : decode cX5_fewestFor 9 = .ok (.iconst 0, 1) := by decide +kernel
theorem dX5_fewestFor_10 : decode cX5_fewestFor 10 = .ok (.invokevirtual 57, 3) := by decide +kernel
theorem dX5_fewestFor_13 : decode cX5_fewestFor 13 = .ok (.aload_n 0, 1) := by decide +kernel
theorem dX5_fewestFor_14 : decode cX5_fewestFor 14 = .ok (.getfield 26, 3) := by decide +kernel
theorem dX5_fewestFor_17 : decode cX5_fewestFor 17 = .ok (.bipush 8, 2) := by decide +kernel
theorem dX5_fewestFor_19 : decode cX5_fewestFor 19 = .ok (.if_icmp .le 7, 3) := by decide +kernel
theorem dX5_fewestFor_22 : decode cX5_fewestFor 22 = .ok (.iconst (-1), 1) := by decide +kernel
theorem dX5_fewestFor_23 : decode cX5_fewestFor 23 = .ok (.goto 7, 3) := by decide +kernel
theorem dX5_fewestFor_26 : decode cX5_fewestFor 26 = .ok (.aload_n 0, 1) := by decide +kernel
theorem dX5_fewestFor_27 : decode cX5_fewestFor 27 = .ok (.getfield 26, 3) := by decide +kernel
theorem dX5_fewestFor_30 : decode cX5_fewestFor 30 = .ok (.ireturn, 1) := by decide +kernel
set_option maxRecDepth 20000 in
theorem ggX5_tryStones_X5_tryStones : GoodIn wsX5_tryStones wsX5_tryStones := goodIn_r _ [0, 1, 2, 3, 4, 5, 6, 7, 8, 9, 10, 11, 12, 13, 14, 15, 16] (by decide +kernel) (by decide +kernel)
set_option maxRecDepth 20000 in
theorem gX5_tryStones_X5_tryStones : GoodIn wsX5_tryStones (wsV RX5 57 RX5 yX5_tryStones wsX5_tryStones) := goodIn_app (goodIn_of _ (by decide +kernel)) ggX5_tryStones_X5_tryStones
theorem dX5_tryStones_0 : decode cX5_tryStones 0 = .ok (.iload_n 2, 1) := by decide +kernel
theorem dX5_tryStones_1 : decode cX5_tryStones 1 = .ok (.ifCond .ne 15, 3) := by decide +kernel
theorem dX5_tryStones_4 : decode cX5_tryStones 4 = .ok (.aload_n 0, 1) := by decide +kernel
theorem dX5_tryStones_5 : decode cX5_tryStones 5 = .ok (.aload_n 0, 1) := by decide +kernel
theorem dX5_tryStones_6 : decode cX5_tryStones 6 = .ok (.getfield 26, 3) := by decide +kernel
theorem dX5_tryStones_9 : decode cX5_tryStones 9 = .ok (.iload_n 3, 1) := by decide +kernel
theorem dX5_tryStones_10 : decode cX5_tryStones 10 = .ok (.invokestatic 29, 3) := by decide +kernel
theorem dX5_tryStones_13 : decode cX5_tryStones 13 = .ok (.putfield 26, 3) := by decide +kernel
theorem dX5_tryStones_16 : decode cX5_tryStones 16 = .ok (.iload_n 1, 1) := by decide +kernel
theorem dX5_tryStones_17 : decode cX5_tryStones 17 = .ok (.aload_n 0, 1) := by decide +kernel
theorem dX5_tryStones_18 : decode cX5_tryStones 18 = .ok (.getfield 22, 3) := by decide +kernel
theorem dX5_tryStones_21 : decode cX5_tryStones 21 = .ok (.if_icmp .ge 17, 3) := by decide +kernel
theorem dX5_tryStones_24 : decode cX5_tryStones 24 = .ok (.iload_n 1, 1) := by decide +kernel
theorem dX5_tryStones_25 : decode cX5_tryStones 25 = .ok (.bipush 8, 2) := by decide +kernel
theorem dX5_tryStones_27 : decode cX5_tryStones 27 = .ok (.if_icmp .ge 11, 3) := by decide +kernel
theorem dX5_tryStones_30 : decode cX5_tryStones 30 = .ok (.iload_n 3, 1) := by decide +kernel
theorem dX5_tryStones_31 : decode cX5_tryStones 31 = .ok (.aload_n 0, 1) := by decide +kernel
theorem dX5_tryStones_32 : decode cX5_tryStones 32 = .ok (.getfield 26, 3) := by decide +kernel
theorem dX5_tryStones_35 : decode cX5_tryStones 35 = .ok (.if_icmp .lt 4, 3) := by decide +kernel
theorem dX5_tryStones_38 : decode cX5_tryStones 38 = .ok (.return_, 1) := by decide +kernel
theorem dX5_tryStones_39 : decode cX5_tryStones 39 = .ok (.aload_n 0, 1) := by decide +kernel
theorem dX5_tryStones_40 : decode cX5_tryStones 40 = .ok (.iload_n 1, 1) := by decide +kernel
theorem dX5_tryStones_41 : decode cX5_tryStones 41 = .ok (.iconst 1, 1) := by decide +kernel
theorem dX5_tryStones_42 : decode cX5_tryStones 42 = .ok (.iadd, 1) := by decide +kernel
theorem dX5_tryStones_43 : decode cX5_tryStones 43 = .ok (.iload_n 2, 1) := by decide +kernel
theorem dX5_tryStones_44 : decode cX5_tryStones 44 = .ok (.iload_n 3, 1) := by decide +kernel
theorem dX5_tryStones_45 : decode cX5_tryStones 45 = .ok (.invokevirtual 57, 3) := by decide +kernel
theorem dX5_tryStones_48 : decode cX5_tryStones 48 = .ok (.aload_n 0, 1) := by decide +kernel
theorem dX5_tryStones_49 : decode cX5_tryStones 49 = .ok (.iload_n 1, 1) := by decide +kernel
theorem dX5_tryStones_50 : decode cX5_tryStones 50 = .ok (.iconst 1, 1) := by decide +kernel
theorem dX5_tryStones_51 : decode cX5_tryStones 51 = .ok (.iadd, 1) := by decide +kernel
theorem dX5_tryStones_52 : decode cX5_tryStones 52 = .ok (.iload_n 2, 1) := by decide +kernel
theorem dX5_tryStones_53 : decode cX5_tryStones 53 = .ok (.aload_n 0, 1) := by decide +kernel
theorem dX5_tryStones_54 : decode cX5_tryStones 54 = .ok (.getfield 11, 3) := by decide +kernel
theorem dX5_tryStones_57 : decode cX5_tryStones 57 = .ok (.iload_n 1, 1) := by decide +kernel
theorem dX5_tryStones_58 : decode cX5_tryStones 58 = .ok (.iaload, 1) := by decide +kernel
theorem dX5_tryStones_59 : decode cX5_tryStones 59 = .ok (.isub, 1) := by decide +kernel
theorem dX5_tryStones_60 : decode cX5_tryStones 60 = .ok (.iload_n 3, 1) := by decide +kernel
theorem dX5_tryStones_61 : decode cX5_tryStones 61 = .ok (.iconst 1, 1) := by decide +kernel
theorem dX5_tryStones_62 : decode cX5_tryStones 62 = .ok (.iadd, 1) := by decide +kernel
theorem dX5_tryStones_63 : decode cX5_tryStones 63 = .ok (.invokevirtual 57, 3) := by decide +kernel
theorem dX5_tryStones_66 : decode cX5_tryStones 66 = .ok (.aload_n 0, 1) := by decide +kernel
theorem dX5_tryStones_67 : decode cX5_tryStones 67 = .ok (.iload_n 1, 1) := by decide +kernel
theorem dX5_tryStones_68 : decode cX5_tryStones 68 = .ok (.iconst 1, 1) := by decide +kernel
theorem dX5_tryStones_69 : decode cX5_tryStones 69 = .ok (.iadd, 1) := by decide +kernel
theorem dX5_tryStones_70 : decode cX5_tryStones 70 = .ok (.iload_n 2, 1) := by decide +kernel
theorem dX5_tryStones_71 : decode cX5_tryStones 71 = .ok (.aload_n 0, 1) := by decide +kernel
theorem dX5_tryStones_72 : decode cX5_tryStones 72 = .ok (.getfield 11, 3) := by decide +kernel
theorem dX5_tryStones_75 : decode cX5_tryStones 75 = .ok (.iload_n 1, 1) := by decide +kernel
theorem dX5_tryStones_76 : decode cX5_tryStones 76 = .ok (.iaload, 1) := by decide +kernel
theorem dX5_tryStones_77 : decode cX5_tryStones 77 = .ok (.iadd, 1) := by decide +kernel
theorem dX5_tryStones_78 : decode cX5_tryStones 78 = .ok (.iload_n 3, 1) := by decide +kernel
theorem dX5_tryStones_79 : decode cX5_tryStones 79 = .ok (.iconst 1, 1) := by decide +kernel
theorem dX5_tryStones_80 : decode cX5_tryStones 80 = .ok (.iadd, 1) := by decide +kernel
theorem dX5_tryStones_81 : decode cX5_tryStones 81 = .ok (.invokevirtual 57, 3) := by decide +kernel
theorem dX5_tryStones_84 : decode cX5_tryStones 84 = .ok (.return_, 1) := by decide +kernel
set_option maxRecDepth 20000 in
theorem ggX5_evenAtBest_X5_seat : GoodIn wsX5_evenAtBest wsX5_seat := goodIn_r _ [6, 7, 1, 8, 9, 10, 11, 12, 13, 14, 15, 16, 17, 18, 2, 3, 4, 5, 19, 20, 21, 22, 23] (by decide +kernel) (by decide +kernel)
set_option maxRecDepth 20000 in
theorem gX5_evenAtBest_X5_seat : GoodIn wsX5_evenAtBest (wsV RX5 61 RX5 yX5_seat wsX5_seat) := goodIn_app (goodIn_of _ (by decide +kernel)) ggX5_evenAtBest_X5_seat
theorem dX5_evenAtBest_0 : decode cX5_evenAtBest 0 = .ok (.aload_n 0, 1) := by decide +kernel
theorem dX5_evenAtBest_1 : decode cX5_evenAtBest 1 = .ok (.sipush 6375, 3) := by decide +kernel
theorem dX5_evenAtBest_4 : decode cX5_evenAtBest 4 = .ok (.putfield 26, 3) := by decide +kernel
theorem dX5_evenAtBest_7 : decode cX5_evenAtBest 7 = .ok (.aload_n 0, 1) := by decide +kernel
theorem dX5_evenAtBest_8 : decode cX5_evenAtBest 8 = .ok (.iconst 0, 1) := by decide +kernel
theorem dX5_evenAtBest_9 : decode cX5_evenAtBest 9 = .ok (.iconst 0, 1) := by decide +kernel
theorem dX5_evenAtBest_10 : decode cX5_evenAtBest 10 = .ok (.iconst 0, 1) := by decide +kernel
theorem dX5_evenAtBest_11 : decode cX5_evenAtBest 11 = .ok (.invokevirtual 61, 3) := by decide +kernel
theorem dX5_evenAtBest_14 : decode cX5_evenAtBest 14 = .ok (.aload_n 0, 1) := by decide +kernel
theorem dX5_evenAtBest_15 : decode cX5_evenAtBest 15 = .ok (.getfield 26, 3) := by decide +kernel
theorem dX5_evenAtBest_18 : decode cX5_evenAtBest 18 = .ok (.ireturn, 1) := by decide +kernel
set_option maxRecDepth 20000 in
theorem ggX5_seat_X11_has : GoodIn wsX5_seat wsX11_has := goodIn_r _ [13] (by decide +kernel) (by decide +kernel)
set_option maxRecDepth 20000 in
theorem gX5_seat_X11_has_n64 : GoodIn wsX5_seat (wsX11_has) := ggX5_seat_X11_has
set_option maxRecDepth 20000 in
theorem ggX5_seat_X5_seat : GoodIn wsX5_seat wsX5_seat := goodIn_r _ [0, 1, 2, 3, 4, 5, 6, 7, 8, 9, 10, 11, 12, 13, 14, 15, 16, 17, 18, 19, 20, 21, 22] (by decide +kernel) (by decide +kernel)
set_option maxRecDepth 20000 in
theorem gX5_seat_X5_seat : GoodIn wsX5_seat (wsV RX5 61 RX5 yX5_seat wsX5_seat) := goodIn_app (goodIn_of _ (by decide +kernel)) ggX5_seat_X5_seat
theorem dX5_seat_0 : decode cX5_seat 0 = .ok (.iload_n 1, 1) := by decide +kernel
theorem dX5_seat_1 : decode cX5_seat 1 = .ok (.aload_n 0, 1) := by decide +kernel
theorem dX5_seat_2 : decode cX5_seat 2 = .ok (.getfield 22, 3) := by decide +kernel
theorem dX5_seat_5 : decode cX5_seat 5 = .ok (.if_icmp .ge 8, 3) := by decide +kernel
theorem dX5_seat_8 : decode cX5_seat 8 = .ok (.iload_n 1, 1) := by decide +kernel
theorem dX5_seat_9 : decode cX5_seat 9 = .ok (.iconst 5, 1) := by decide +kernel
theorem dX5_seat_10 : decode cX5_seat 10 = .ok (.if_icmp .lt 19, 3) := by decide +kernel
theorem dX5_seat_13 : decode cX5_seat 13 = .ok (.aload_n 0, 1) := by decide +kernel
theorem dX5_seat_14 : decode cX5_seat 14 = .ok (.aload_n 0, 1) := by decide +kernel
theorem dX5_seat_15 : decode cX5_seat 15 = .ok (.getfield 26, 3) := by decide +kernel
theorem dX5_seat_18 : decode cX5_seat 18 = .ok (.iload_n 3, 1) := by decide +kernel
theorem dX5_seat_19 : decode cX5_seat 19 = .ok (.invokestatic 54, 3) := by decide +kernel
theorem dX5_seat_22 : decode cX5_seat 22 = .ok (.invokestatic 29, 3) := by decide +kernel
theorem dX5_seat_25 : decode cX5_seat 25 = .ok (.putfield 26, 3) := by decide +kernel
theorem dX5_seat_28 : decode cX5_seat 28 = .ok (.return_, 1) := by decide +kernel
theorem dX5_seat_29 : decode cX5_seat 29 = .ok (.iconst 0, 1) := by decide +kernel
theorem dX5_seat_30 : decode cX5_seat 30 = .ok (.istore 4, 2) := by decide +kernel
theorem dX5_seat_32 : decode cX5_seat 32 = .ok (.iload 4, 2) := by decide +kernel
theorem dX5_seat_34 : decode cX5_seat 34 = .ok (.bipush 10, 2) := by decide +kernel
theorem dX5_seat_36 : decode cX5_seat 36 = .ok (.if_icmp .ge 80, 3) := by decide +kernel
theorem dX5_seat_39 : decode cX5_seat 39 = .ok (.aload_n 0, 1) := by decide +kernel
theorem dX5_seat_40 : decode cX5_seat 40 = .ok (.getfield 26, 3) := by decide +kernel
theorem dX5_seat_43 : decode cX5_seat 43 = .ok (.ifCond .le 73, 3) := by decide +kernel
theorem dX5_seat_46 : decode cX5_seat 46 = .ok (.iload_n 2, 1) := by decide +kernel
theorem dX5_seat_47 : decode cX5_seat 47 = .ok (.iload 4, 2) := by decide +kernel
theorem dX5_seat_49 : decode cX5_seat 49 = .ok (.invokestatic 64, 3) := by decide +kernel
theorem dX5_seat_52 : decode cX5_seat 52 = .ok (.ifCond .ne 58, 3) := by decide +kernel
theorem dX5_seat_55 : decode cX5_seat 55 = .ok (.iload 4, 2) := by decide +kernel
theorem dX5_seat_57 : decode cX5_seat 57 = .ok (.iconst 5, 1) := by decide +kernel
theorem dX5_seat_58 : decode cX5_seat 58 = .ok (.irem, 1) := by decide +kernel
theorem dX5_seat_59 : decode cX5_seat 59 = .ok (.iconst 1, 1) := by decide +kernel
theorem dX5_seat_60 : decode cX5_seat 60 = .ok (.iadd, 1) := by decide +kernel
theorem dX5_seat_61 : decode cX5_seat 61 = .ok (.istore 5, 2) := by decide +kernel
theorem dX5_seat_63 : decode cX5_seat 63 = .ok (.iload 4, 2) := by decide +kernel
theorem dX5_seat_65 : decode cX5_seat 65 = .ok (.iconst 5, 1) := by decide +kernel
theorem dX5_seat_66 : decode cX5_seat 66 = .ok (.if_icmp .ge 15, 3) := by decide +kernel
theorem dX5_seat_69 : decode cX5_seat 69 = .ok (.iload 5, 2) := by decide +kernel
theorem dX5_seat_71 : decode cX5_seat 71 = .ok (.aload_n 0, 1) := by decide +kernel
theorem dX5_seat_72 : decode cX5_seat 72 = .ok (.getfield 11, 3) := by decide +kernel
theorem dX5_seat_75 : decode cX5_seat 75 = .ok (.iload_n 1, 1) := by decide +kernel
theorem dX5_seat_76 : decode cX5_seat 76 = .ok (.iaload, 1) := by decide +kernel
theorem dX5_seat_77 : decode cX5_seat 77 = .ok (.imul, 1) := by decide +kernel
theorem dX5_seat_78 : decode cX5_seat 78 = .ok (.goto 13, 3) := by decide +kernel
theorem dX5_seat_81 : decode cX5_seat 81 = .ok (.iload 5, 2) := by decide +kernel
theorem dX5_seat_83 : decode cX5_seat 83 = .ok (.ineg, 1) := by decide +kernel
theorem dX5_seat_84 : decode cX5_seat 84 = .ok (.aload_n 0, 1) := by decide +kernel
theorem dX5_seat_85 : decode cX5_seat 85 = .ok (.getfield 11, 3) := by decide +kernel
theorem dX5_seat_88 : decode cX5_seat 88 = .ok (.iload_n 1, 1) := by decide +kernel
theorem dX5_seat_89 : decode cX5_seat 89 = .ok (.iaload, 1) := by decide +kernel
theorem dX5_seat_90 : decode cX5_seat 90 = .ok (.imul, 1) := by decide +kernel
theorem dX5_seat_91 : decode cX5_seat 91 = .ok (.istore 6, 2) := by decide +kernel
theorem dX5_seat_93 : decode cX5_seat 93 = .ok (.aload_n 0, 1) := by decide +kernel
theorem dX5_seat_94 : decode cX5_seat 94 = .ok (.iload_n 1, 1) := by decide +kernel
theorem dX5_seat_95 : decode cX5_seat 95 = .ok (.iconst 1, 1) := by decide +kernel
theorem dX5_seat_96 : decode cX5_seat 96 = .ok (.iadd, 1) := by decide +kernel
theorem dX5_seat_97 : decode cX5_seat 97 = .ok (.iload_n 2, 1) := by decide +kernel
theorem dX5_seat_98 : decode cX5_seat 98 = .ok (.iconst 1, 1) := by decide +kernel
theorem dX5_seat_99 : decode cX5_seat 99 = .ok (.iload 4, 2) := by decide +kernel
theorem dX5_seat_101 : decode cX5_seat 101 = .ok (.ishl, 1) := by decide +kernel
theorem dX5_seat_102 : decode cX5_seat 102 = .ok (.ior, 1) := by decide +kernel
theorem dX5_seat_103 : decode cX5_seat 103 = .ok (.iload_n 3, 1) := by decide +kernel
theorem dX5_seat_104 : decode cX5_seat 104 = .ok (.iload 6, 2) := by decide +kernel
theorem dX5_seat_106 : decode cX5_seat 106 = .ok (.iadd, 1) := by decide +kernel
theorem dX5_seat_107 : decode cX5_seat 107 = .ok (.invokevirtual 61, 3) := by decide +kernel
theorem dX5_seat_110 : decode cX5_seat 110 = .ok (.iinc 4 1, 3) := by decide +kernel
theorem dX5_seat_113 : decode cX5_seat 113 = .ok (.goto (-81), 3) := by decide +kernel
theorem dX5_seat_116 : decode cX5_seat 116 = .ok (.return_, 1) := by decide +kernel
theorem dX5_mostThatRise_0 : decode cX5_mostThatRise 0 = .ok (.iconst 0, 1) := by decide +kernel
theorem dX5_mostThatRise_1 : decode cX5_mostThatRise 1 = .ok (.istore_n 2, 1) := by decide +kernel
theorem dX5_mostThatRise_2 : decode cX5_mostThatRise 2 = .ok (.iconst 0, 1) := by decide +kernel
theorem dX5_mostThatRise_3 : decode cX5_mostThatRise 3 = .ok (.istore_n 3, 1) := by decide +kernel
theorem dX5_mostThatRise_4 : decode cX5_mostThatRise 4 = .ok (.iload_n 3, 1) := by decide +kernel
theorem dX5_mostThatRise_5 : decode cX5_mostThatRise 5 = .ok (.aload_n 0, 1) := by decide +kernel
theorem dX5_mostThatRise_6 : decode cX5_mostThatRise 6 = .ok (.getfield 22, 3) := by decide +kernel
theorem dX5_mostThatRise_9 : decode cX5_mostThatRise 9 = .ok (.if_icmp .ge 96, 3) := by decide +kernel
theorem dX5_mostThatRise_12 : decode cX5_mostThatRise 12 = .ok (.aload_n 0, 1) := by decide +kernel
theorem dX5_mostThatRise_13 : decode cX5_mostThatRise 13 = .ok (.getfield 15, 3) := by decide +kernel
theorem dX5_mostThatRise_16 : decode cX5_mostThatRise 16 = .ok (.iload_n 3, 1) := by decide +kernel
theorem dX5_mostThatRise_17 : decode cX5_mostThatRise 17 = .ok (.iconst 1, 1) := by decide +kernel
theorem dX5_mostThatRise_18 : decode cX5_mostThatRise 18 = .ok (.iastore, 1) := by decide +kernel
theorem dX5_mostThatRise_19 : decode cX5_mostThatRise 19 = .ok (.iload_n 1, 1) := by decide +kernel
theorem dX5_mostThatRise_20 : decode cX5_mostThatRise 20 = .ok (.ifCond .eq 13, 3) := by decide +kernel
theorem dX5_mostThatRise_23 : decode cX5_mostThatRise 23 = .ok (.iconst 0, 1) := by decide +kernel
theorem dX5_mostThatRise_24 : decode cX5_mostThatRise 24 = .ok (.iload_n 3, 1) := by decide +kernel
theorem dX5_mostThatRise_25 : decode cX5_mostThatRise 25 = .ok (.iconst 1, 1) := by decide +kernel
theorem dX5_mostThatRise_26 : decode cX5_mostThatRise 26 = .ok (.isub, 1) := by decide +kernel
theorem dX5_mostThatRise_27 : decode cX5_mostThatRise 27 = .ok (.invokestatic 68, 3) := by decide +kernel
theorem dX5_mostThatRise_30 : decode cX5_mostThatRise 30 = .ok (.goto 4, 3) := by decide +kernel
theorem dX5_mostThatRise_33 : decode cX5_mostThatRise 33 = .ok (.iconst 0, 1) := by decide +kernel
theorem dX5_mostThatRise_34 : decode cX5_mostThatRise 34 = .ok (.istore 4, 2) := by decide +kernel
theorem dX5_mostThatRise_36 : decode cX5_mostThatRise 36 = .ok (.iload 4, 2) := by decide +kernel
theorem dX5_mostThatRise_38 : decode cX5_mostThatRise 38 = .ok (.iload_n 3, 1) := by decide +kernel
theorem dX5_mostThatRise_39 : decode cX5_mostThatRise 39 = .ok (.if_icmp .ge 49, 3) := by decide +kernel
theorem dX5_mostThatRise_42 : decode cX5_mostThatRise 42 = .ok (.aload_n 0, 1) := by decide +kernel
theorem dX5_mostThatRise_43 : decode cX5_mostThatRise 43 = .ok (.getfield 11, 3) := by decide +kernel
theorem dX5_mostThatRise_46 : decode cX5_mostThatRise 46 = .ok (.iload 4, 2) := by decide +kernel
theorem dX5_mostThatRise_48 : decode cX5_mostThatRise 48 = .ok (.iaload, 1) := by decide +kernel
theorem dX5_mostThatRise_49 : decode cX5_mostThatRise 49 = .ok (.aload_n 0, 1) := by decide +kernel
theorem dX5_mostThatRise_50 : decode cX5_mostThatRise 50 = .ok (.getfield 11, 3) := by decide +kernel
theorem dX5_mostThatRise_53 : decode cX5_mostThatRise 53 = .ok (.iload_n 3, 1) := by decide +kernel
theorem dX5_mostThatRise_54 : decode cX5_mostThatRise 54 = .ok (.iaload, 1) := by decide +kernel
theorem dX5_mostThatRise_55 : decode cX5_mostThatRise 55 = .ok (.if_icmp .gt 27, 3) := by decide +kernel
theorem dX5_mostThatRise_58 : decode cX5_mostThatRise 58 = .ok (.aload_n 0, 1) := by decide +kernel
theorem dX5_mostThatRise_59 : decode cX5_mostThatRise 59 = .ok (.getfield 15, 3) := by decide +kernel
theorem dX5_mostThatRise_62 : decode cX5_mostThatRise 62 = .ok (.iload_n 3, 1) := by decide +kernel
theorem dX5_mostThatRise_63 : decode cX5_mostThatRise 63 = .ok (.aload_n 0, 1) := by decide +kernel
theorem dX5_mostThatRise_64 : decode cX5_mostThatRise 64 = .ok (.getfield 15, 3) := by decide +kernel
theorem dX5_mostThatRise_67 : decode cX5_mostThatRise 67 = .ok (.iload_n 3, 1) := by decide +kernel
theorem dX5_mostThatRise_68 : decode cX5_mostThatRise 68 = .ok (.iaload, 1) := by decide +kernel
theorem dX5_mostThatRise_69 : decode cX5_mostThatRise 69 = .ok (.aload_n 0, 1) := by decide +kernel
theorem dX5_mostThatRise_70 : decode cX5_mostThatRise 70 = .ok (.getfield 15, 3) := by decide +kernel
theorem dX5_mostThatRise_73 : decode cX5_mostThatRise 73 = .ok (.iload 4, 2) := by decide +kernel
theorem dX5_mostThatRise_75 : decode cX5_mostThatRise 75 = .ok (.iaload, 1) := by decide +kernel
theorem dX5_mostThatRise_76 : decode cX5_mostThatRise 76 = .ok (.iconst 1, 1) := by decide +kernel
theorem dX5_mostThatRise_77 : decode cX5_mostThatRise 77 = .ok (.iadd, 1) := by decide +kernel
theorem dX5_mostThatRise_78 : decode cX5_mostThatRise 78 = .ok (.invokestatic 68, 3) := by decide +kernel
theorem dX5_mostThatRise_81 : decode cX5_mostThatRise 81 = .ok (.iastore, 1) := by decide +kernel
theorem dX5_mostThatRise_82 : decode cX5_mostThatRise 82 = .ok (.iinc 4 1, 3) := by decide +kernel
theorem dX5_mostThatRise_85 : decode cX5_mostThatRise 85 = .ok (.goto (-49), 3) := by decide +kernel
theorem dX5_mostThatRise_88 : decode cX5_mostThatRise 88 = .ok (.iload_n 2, 1) := by decide +kernel
theorem dX5_mostThatRise_89 : decode cX5_mostThatRise 89 = .ok (.aload_n 0, 1) := by decide +kernel
theorem dX5_mostThatRise_90 : decode cX5_mostThatRise 90 = .ok (.getfield 15, 3) := by decide +kernel
theorem dX5_mostThatRise_93 : decode cX5_mostThatRise 93 = .ok (.iload_n 3, 1) := by decide +kernel
theorem dX5_mostThatRise_94 : decode cX5_mostThatRise 94 = .ok (.iaload, 1) := by decide +kernel
theorem dX5_mostThatRise_95 : decode cX5_mostThatRise 95 = .ok (.invokestatic 68, 3) := by decide +kernel
theorem dX5_mostThatRise_98 : decode cX5_mostThatRise 98 = .ok (.istore_n 2, 1) := by decide +kernel
theorem dX5_mostThatRise_99 : decode cX5_mostThatRise 99 = .ok (.iinc 3 1, 3) := by decide +kernel
theorem dX5_mostThatRise_102 : decode cX5_mostThatRise 102 = .ok (.goto (-98), 3) := by decide +kernel
theorem dX5_mostThatRise_105 : decode cX5_mostThatRise 105 = .ok (.iload_n 2, 1) := by decide +kernel
theorem dX5_mostThatRise_106 : decode cX5_mostThatRise 106 = .ok (.ireturn, 1) := by decide +kernel
set_option maxRecDepth 20000 in
theorem ggX5_timesLeftHeavier_X11_has : GoodIn wsX5_timesLeftHeavier wsX11_has := goodIn_r _ [5] (by decide +kernel) (by decide +kernel)
set_option maxRecDepth 20000 in
theorem gX5_timesLeftHeavier_X11_has_n64 : GoodIn wsX5_timesLeftHeavier (wsX11_has) := ggX5_timesLeftHeavier_X11_has
theorem dX5_timesLeftHeavier_0 : decode cX5_timesLeftHeavier 0 = .ok (.iconst 0, 1) := by decide +kernel
theorem dX5_timesLeftHeavier_1 : decode cX5_timesLeftHeavier 1 = .ok (.istore_n 2, 1) := by decide +kernel
theorem dX5_timesLeftHeavier_2 : decode cX5_timesLeftHeavier 2 = .ok (.iconst 0, 1) := by decide +kernel
theorem dX5_timesLeftHeavier_3 : decode cX5_timesLeftHeavier 3 = .ok (.istore_n 3, 1) := by decide +kernel
theorem dX5_timesLeftHeavier_4 : decode cX5_timesLeftHeavier 4 = .ok (.iconst 0, 1) := by decide +kernel
theorem dX5_timesLeftHeavier_5 : decode cX5_timesLeftHeavier 5 = .ok (.istore 4, 2) := by decide +kernel
theorem dX5_timesLeftHeavier_7 : decode cX5_timesLeftHeavier 7 = .ok (.iload 4, 2) := by decide +kernel
theorem dX5_timesLeftHeavier_9 : decode cX5_timesLeftHeavier 9 = .ok (.aload_n 0, 1) := by decide +kernel
theorem dX5_timesLeftHeavier_10 : decode cX5_timesLeftHeavier 10 = .ok (.getfield 22, 3) := by decide +kernel
theorem dX5_timesLeftHeavier_13 : decode cX5_timesLeftHeavier 13 = .ok (.if_icmp .ge 51, 3) := by decide +kernel
theorem dX5_timesLeftHeavier_16 : decode cX5_timesLeftHeavier 16 = .ok (.iload_n 2, 1) := by decide +kernel
theorem dX5_timesLeftHeavier_17 : decode cX5_timesLeftHeavier 17 = .ok (.iload_n 1, 1) := by decide +kernel
theorem dX5_timesLeftHeavier_18 : decode cX5_timesLeftHeavier 18 = .ok (.iload 4, 2) := by decide +kernel
theorem dX5_timesLeftHeavier_20 : decode cX5_timesLeftHeavier 20 = .ok (.invokestatic 64, 3) := by decide +kernel
theorem dX5_timesLeftHeavier_23 : decode cX5_timesLeftHeavier 23 = .ok (.ifCond .eq 13, 3) := by decide +kernel
theorem dX5_timesLeftHeavier_26 : decode cX5_timesLeftHeavier 26 = .ok (.aload_n 0, 1) := by decide +kernel
theorem dX5_timesLeftHeavier_27 : decode cX5_timesLeftHeavier 27 = .ok (.getfield 11, 3) := by decide +kernel
theorem dX5_timesLeftHeavier_30 : decode cX5_timesLeftHeavier 30 = .ok (.iload 4, 2) := by decide +kernel
theorem dX5_timesLeftHeavier_32 : decode cX5_timesLeftHeavier 32 = .ok (.iaload, 1) := by decide +kernel
theorem dX5_timesLeftHeavier_33 : decode cX5_timesLeftHeavier 33 = .ok (.goto 11, 3) := by decide +kernel
theorem dX5_timesLeftHeavier_36 : decode cX5_timesLeftHeavier 36 = .ok (.aload_n 0, 1) := by decide +kernel
theorem dX5_timesLeftHeavier_37 : decode cX5_timesLeftHeavier 37 = .ok (.getfield 11, 3) := by decide +kernel
theorem dX5_timesLeftHeavier_40 : decode cX5_timesLeftHeavier 40 = .ok (.iload 4, 2) := by decide +kernel
theorem dX5_timesLeftHeavier_42 : decode cX5_timesLeftHeavier 42 = .ok (.iaload, 1) := by decide +kernel
theorem dX5_timesLeftHeavier_43 : decode cX5_timesLeftHeavier 43 = .ok (.ineg, 1) := by decide +kernel
theorem dX5_timesLeftHeavier_44 : decode cX5_timesLeftHeavier 44 = .ok (.iadd, 1) := by decide +kernel
theorem dX5_timesLeftHeavier_45 : decode cX5_timesLeftHeavier 45 = .ok (.istore_n 2, 1) := by decide +kernel
theorem dX5_timesLeftHeavier_46 : decode cX5_timesLeftHeavier 46 = .ok (.iload_n 3, 1) := by decide +kernel
theorem dX5_timesLeftHeavier_47 : decode cX5_timesLeftHeavier 47 = .ok (.iload_n 2, 1) := by decide +kernel
theorem dX5_timesLeftHeavier_48 : decode cX5_timesLeftHeavier 48 = .ok (.ifCond .le 7, 3) := by decide +kernel
theorem dX5_timesLeftHeavier_51 : decode cX5_timesLeftHeavier 51 = .ok (.iconst 1, 1) := by decide +kernel
theorem dX5_timesLeftHeavier_52 : decode cX5_timesLeftHeavier 52 = .ok (.goto 4, 3) := by decide +kernel
theorem dX5_timesLeftHeavier_55 : decode cX5_timesLeftHeavier 55 = .ok (.iconst 0, 1) := by decide +kernel
theorem dX5_timesLeftHeavier_56 : decode cX5_timesLeftHeavier 56 = .ok (.iadd, 1) := by decide +kernel
theorem dX5_timesLeftHeavier_57 : decode cX5_timesLeftHeavier 57 = .ok (.istore_n 3, 1) := by decide +kernel
theorem dX5_timesLeftHeavier_58 : decode cX5_timesLeftHeavier 58 = .ok (.iinc 4 1, 3) := by decide +kernel
theorem dX5_timesLeftHeavier_61 : decode cX5_timesLeftHeavier 61 = .ok (.goto (-54), 3) := by decide +kernel
theorem dX5_timesLeftHeavier_64 : decode cX5_timesLeftHeavier 64 = .ok (.iload_n 3, 1) := by decide +kernel
theorem dX5_timesLeftHeavier_65 : decode cX5_timesLeftHeavier 65 = .ok (.ireturn, 1) := by decide +kernel
set_option maxRecDepth 20000 in
theorem ggX5_mostLeftHeavier_X11_has : GoodIn wsX5_mostLeftHeavier wsX11_has := goodIn_r _ [9] (by decide +kernel) (by decide +kernel)
set_option maxRecDepth 20000 in
theorem gX5_mostLeftHeavier_X11_has_n64 : GoodIn wsX5_mostLeftHeavier (wsX11_has) := ggX5_mostLeftHeavier_X11_has
theorem dX5_mostLeftHeavier_0 : decode cX5_mostLeftHeavier 0 = .ok (.iconst 0, 1) := by decide +kernel
theorem dX5_mostLeftHeavier_1 : decode cX5_mostLeftHeavier 1 = .ok (.istore_n 2, 1) := by decide +kernel
theorem dX5_mostLeftHeavier_2 : decode cX5_mostLeftHeavier 2 = .ok (.iconst 0, 1) := by decide +kernel
theorem dX5_mostLeftHeavier_3 : decode cX5_mostLeftHeavier 3 = .ok (.istore_n 3, 1) := by decide +kernel
theorem dX5_mostLeftHeavier_4 : decode cX5_mostLeftHeavier 4 = .ok (.iconst 0, 1) := by decide +kernel
theorem dX5_mostLeftHeavier_5 : decode cX5_mostLeftHeavier 5 = .ok (.istore 4, 2) := by decide +kernel
theorem dX5_mostLeftHeavier_7 : decode cX5_mostLeftHeavier 7 = .ok (.iload 4, 2) := by decide +kernel
theorem dX5_mostLeftHeavier_9 : decode cX5_mostLeftHeavier 9 = .ok (.aload_n 0, 1) := by decide +kernel
theorem dX5_mostLeftHeavier_10 : decode cX5_mostLeftHeavier 10 = .ok (.getfield 22, 3) := by decide +kernel
theorem dX5_mostLeftHeavier_13 : decode cX5_mostLeftHeavier 13 = .ok (.if_icmp .ge 45, 3) := by decide +kernel
theorem dX5_mostLeftHeavier_16 : decode cX5_mostLeftHeavier 16 = .ok (.iload_n 2, 1) := by decide +kernel
theorem dX5_mostLeftHeavier_17 : decode cX5_mostLeftHeavier 17 = .ok (.iload_n 1, 1) := by decide +kernel
theorem dX5_mostLeftHeavier_18 : decode cX5_mostLeftHeavier 18 = .ok (.iload 4, 2) := by decide +kernel
theorem dX5_mostLeftHeavier_20 : decode cX5_mostLeftHeavier 20 = .ok (.invokestatic 64, 3) := by decide +kernel
theorem dX5_mostLeftHeavier_23 : decode cX5_mostLeftHeavier 23 = .ok (.ifCond .eq 13, 3) := by decide +kernel
theorem dX5_mostLeftHeavier_26 : decode cX5_mostLeftHeavier 26 = .ok (.aload_n 0, 1) := by decide +kernel
theorem dX5_mostLeftHeavier_27 : decode cX5_mostLeftHeavier 27 = .ok (.getfield 11, 3) := by decide +kernel
theorem dX5_mostLeftHeavier_30 : decode cX5_mostLeftHeavier 30 = .ok (.iload 4, 2) := by decide +kernel
theorem dX5_mostLeftHeavier_32 : decode cX5_mostLeftHeavier 32 = .ok (.iaload, 1) := by decide +kernel
theorem dX5_mostLeftHeavier_33 : decode cX5_mostLeftHeavier 33 = .ok (.goto 11, 3) := by decide +kernel
theorem dX5_mostLeftHeavier_36 : decode cX5_mostLeftHeavier 36 = .ok (.aload_n 0, 1) := by decide +kernel
theorem dX5_mostLeftHeavier_37 : decode cX5_mostLeftHeavier 37 = .ok (.getfield 11, 3) := by decide +kernel
theorem dX5_mostLeftHeavier_40 : decode cX5_mostLeftHeavier 40 = .ok (.iload 4, 2) := by decide +kernel
theorem dX5_mostLeftHeavier_42 : decode cX5_mostLeftHeavier 42 = .ok (.iaload, 1) := by decide +kernel
theorem dX5_mostLeftHeavier_43 : decode cX5_mostLeftHeavier 43 = .ok (.ineg, 1) := by decide +kernel
theorem dX5_mostLeftHeavier_44 : decode cX5_mostLeftHeavier 44 = .ok (.iadd, 1) := by decide +kernel
theorem dX5_mostLeftHeavier_45 : decode cX5_mostLeftHeavier 45 = .ok (.istore_n 2, 1) := by decide +kernel
theorem dX5_mostLeftHeavier_46 : decode cX5_mostLeftHeavier 46 = .ok (.iload_n 3, 1) := by decide +kernel
theorem dX5_mostLeftHeavier_47 : decode cX5_mostLeftHeavier 47 = .ok (.iload_n 2, 1) := by decide +kernel
theorem dX5_mostLeftHeavier_48 : decode cX5_mostLeftHeavier 48 = .ok (.invokestatic 68, 3) := by decide +kernel
theorem dX5_mostLeftHeavier_51 : decode cX5_mostLeftHeavier 51 = .ok (.istore_n 3, 1) := by decide +kernel
theorem dX5_mostLeftHeavier_52 : decode cX5_mostLeftHeavier 52 = .ok (.iinc 4 1, 3) := by decide +kernel
theorem dX5_mostLeftHeavier_55 : decode cX5_mostLeftHeavier 55 = .ok (.goto (-48), 3) := by decide +kernel
theorem dX5_mostLeftHeavier_58 : decode cX5_mostLeftHeavier 58 = .ok (.iload_n 3, 1) := by decide +kernel
theorem dX5_mostLeftHeavier_59 : decode cX5_mostLeftHeavier 59 = .ok (.ireturn, 1) := by decide +kernel
theorem dX6_init_0 : decode cX6_init 0 = .ok (.aload_n 0, 1) := by decide +kernel
theorem dX6_init_1 : decode cX6_init 1 = .ok (.invokespecial 3, 3) := by decide +kernel
theorem dX6_init_4 : decode cX6_init 4 = .ok (.aload_n 0, 1) := by decide +kernel
theorem dX6_init_5 : decode cX6_init 5 = .ok (.bipush 16, 2) := by decide +kernel
theorem dX6_init_7 : decode cX6_init 7 = .ok (.newarray .int, 2) := by decide +kernel
theorem dX6_init_9 : decode cX6_init 9 = .ok (.putfield 9, 3) := by decide +kernel
theorem dX6_init_12 : decode cX6_init 12 = .ok (.aload_n 0, 1) := by decide +kernel
theorem dX6_init_13 : decode cX6_init 13 = .ok (.bipush 16, 2) := by decide +kernel
theorem dX6_init_15 : decode cX6_init 15 = .ok (.newarray .int, 2) := by decide +kernel
theorem dX6_init_17 : decode cX6_init 17 = .ok (.putfield 15, 3) := by decide +kernel
theorem dX6_init_20 : decode cX6_init 20 = .ok (.return_, 1) := by decide +kernel
set_option maxRecDepth 20000 in
theorem ggX6_find_X6_isOneEach : GoodIn wsX6_find wsX6_isOneEach := goodIn_r _ [10, 5, 6, 11, 12, 13, 14, 15, 16, 17, 33, 34, 35, 36] (by decide +kernel) (by decide +kernel)
set_option maxRecDepth 20000 in
theorem gX6_find_X6_isOneEach : GoodIn wsX6_find (va_wsS RX6 24 yX6_isOneEach wsX6_isOneEach) := goodIn_app (goodIn_of _ (by decide +kernel)) ggX6_find_X6_isOneEach
set_option maxRecDepth 20000 in
theorem ggX6_find_X6_join : GoodIn wsX6_find wsX6_join := goodIn_r _ [20, 21, 22, 23] (by decide +kernel) (by decide +kernel)
set_option maxRecDepth 20000 in
theorem gX6_find_X6_join : GoodIn wsX6_find (va_wsS RX6 37 yX6_join wsX6_join) := goodIn_app (goodIn_of _ (by decide +kernel)) ggX6_find_X6_join
set_option maxRecDepth 20000 in
theorem ggX6_find_X6_close : GoodIn wsX6_find wsX6_close := goodIn_r _ [26, 21, 22, 23] (by decide +kernel) (by decide +kernel)
set_option maxRecDepth 20000 in
theorem gX6_find_X6_close : GoodIn wsX6_find (va_wsS RX6 41 yX6_close wsX6_close) := goodIn_app (goodIn_of _ (by decide +kernel)) ggX6_find_X6_close
set_option maxRecDepth 20000 in
theorem ggX6_find_X6_allAlike : GoodIn wsX6_find wsX6_allAlike := goodIn_r _ [30, 1, 31, 32] (by decide +kernel) (by decide +kernel)
set_option maxRecDepth 20000 in
theorem gX6_find_X6_allAlike : GoodIn wsX6_find (wsV RX6 45 RX6 yX6_allAlike wsX6_allAlike) := goodIn_app (goodIn_of _ (by decide +kernel)) ggX6_find_X6_allAlike
theorem dX6_find_0 : decode cX6_find 0 = .ok (.iconst 0, 1) := by decide +kernel
theorem dX6_find_1 : decode cX6_find 1 = .ok (.istore_n 2, 1) := by decide +kernel
theorem dX6_find_2 : decode cX6_find 2 = .ok (.iload_n 2, 1) := by decide +kernel
theorem dX6_find_3 : decode cX6_find 3 = .ok (.bipush 16, 2) := by decide +kernel
theorem dX6_find_5 : decode cX6_find 5 = .ok (.if_icmp .ge 25, 3) := by decide +kernel
theorem dX6_find_8 : decode cX6_find 8 = .ok (.aload_n 0, 1) := by decide +kernel
theorem dX6_find_9 : decode cX6_find 9 = .ok (.getfield 15, 3) := by decide +kernel
theorem dX6_find_12 : decode cX6_find 12 = .ok (.iload_n 2, 1) := by decide +kernel
theorem dX6_find_13 : decode cX6_find 13 = .ok (.iconst 1, 1) := by decide +kernel
theorem dX6_find_14 : decode cX6_find 14 = .ok (.iload_n 2, 1) := by decide +kernel
theorem dX6_find_15 : decode cX6_find 15 = .ok (.ishl, 1) := by decide +kernel
theorem dX6_find_16 : decode cX6_find 16 = .ok (.iastore, 1) := by decide +kernel
theorem dX6_find_17 : decode cX6_find 17 = .ok (.aload_n 0, 1) := by decide +kernel
theorem dX6_find_18 : decode cX6_find 18 = .ok (.getfield 9, 3) := by decide +kernel
theorem dX6_find_21 : decode cX6_find 21 = .ok (.iload_n 2, 1) := by decide +kernel
theorem dX6_find_22 : decode cX6_find 22 = .ok (.iconst 0, 1) := by decide +kernel
theorem dX6_find_23 : decode cX6_find 23 = .ok (.iastore, 1) := by decide +kernel
theorem dX6_find_24 : decode cX6_find 24 = .ok (.iinc 2 1, 3) := by decide +kernel
theorem dX6_find_27 : decode cX6_find 27 = .ok (.goto (-25), 3) := by decide +kernel
theorem dX6_find_30 : decode cX6_find 30 = .ok (.iconst 0, 1) := by decide +kernel
theorem dX6_find_31 : decode cX6_find 31 = .ok (.istore_n 2, 1) := by decide +kernel
theorem dX6_find_32 : decode cX6_find 32 = .ok (.iload_n 2, 1) := by decide +kernel
theorem dX6_find_33 : decode cX6_find 33 = .ok (.aload_n 1, 1) := by decide +kernel
theorem dX6_find_34 : decode cX6_find 34 = .ok (.getfield 18, 3) := by decide +kernel
theorem dX6_find_37 : decode cX6_find 37 = .ok (.if_icmp .ge 66, 3) := by decide +kernel
theorem dX6_find_40 : decode cX6_find 40 = .ok (.aload_n 1, 1) := by decide +kernel
theorem dX6_find_41 : decode cX6_find 41 = .ok (.iload_n 2, 1) := by decide +kernel
theorem dX6_find_42 : decode cX6_find 42 = .ok (.invokestatic 24, 3) := by decide +kernel
theorem dX6_find_45 : decode cX6_find 45 = .ok (.ifCond .eq 52, 3) := by decide +kernel
theorem dX6_find_48 : decode cX6_find 48 = .ok (.aload_n 1, 1) := by decide +kernel
theorem dX6_find_49 : decode cX6_find 49 = .ok (.getfield 28, 3) := by decide +kernel
theorem dX6_find_52 : decode cX6_find 52 = .ok (.iload_n 2, 1) := by decide +kernel
theorem dX6_find_53 : decode cX6_find 53 = .ok (.iaload, 1) := by decide +kernel
theorem dX6_find_54 : decode cX6_find 54 = .ok (.bipush 61, 2) := by decide +kernel
theorem dX6_find_56 : decode cX6_find 56 = .ok (.if_icmp .ne 41, 3) := by decide +kernel
theorem dX6_find_59 : decode cX6_find 59 = .ok (.aload_n 0, 1) := by decide +kernel
theorem dX6_find_60 : decode cX6_find 60 = .ok (.getfield 15, 3) := by decide +kernel
theorem dX6_find_63 : decode cX6_find 63 = .ok (.aload_n 1, 1) := by decide +kernel
theorem dX6_find_64 : decode cX6_find 64 = .ok (.getfield 31, 3) := by decide +kernel
theorem dX6_find_67 : decode cX6_find 67 = .ok (.iload_n 2, 1) := by decide +kernel
theorem dX6_find_68 : decode cX6_find 68 = .ok (.iaload, 1) := by decide +kernel
theorem dX6_find_69 : decode cX6_find 69 = .ok (.aload_n 1, 1) := by decide +kernel
theorem dX6_find_70 : decode cX6_find 70 = .ok (.getfield 34, 3) := by decide +kernel
theorem dX6_find_73 : decode cX6_find 73 = .ok (.iload_n 2, 1) := by decide +kernel
theorem dX6_find_74 : decode cX6_find 74 = .ok (.iaload, 1) := by decide +kernel
theorem dX6_find_75 : decode cX6_find 75 = .ok (.invokestatic 37, 3) := by decide +kernel
theorem dX6_find_78 : decode cX6_find 78 = .ok (.aload_n 0, 1) := by decide +kernel
theorem dX6_find_79 : decode cX6_find 79 = .ok (.getfield 15, 3) := by decide +kernel
theorem dX6_find_82 : decode cX6_find 82 = .ok (.aload_n 1, 1) := by decide +kernel
theorem dX6_find_83 : decode cX6_find 83 = .ok (.getfield 34, 3) := by decide +kernel
theorem dX6_find_86 : decode cX6_find 86 = .ok (.iload_n 2, 1) := by decide +kernel
theorem dX6_find_87 : decode cX6_find 87 = .ok (.iaload, 1) := by decide +kernel
theorem dX6_find_88 : decode cX6_find 88 = .ok (.aload_n 1, 1) := by decide +kernel
theorem dX6_find_89 : decode cX6_find 89 = .ok (.getfield 31, 3) := by decide +kernel
theorem dX6_find_92 : decode cX6_find 92 = .ok (.iload_n 2, 1) := by decide +kernel
theorem dX6_find_93 : decode cX6_find 93 = .ok (.iaload, 1) := by decide +kernel
theorem dX6_find_94 : decode cX6_find 94 = .ok (.invokestatic 37, 3) := by decide +kernel
theorem dX6_find_97 : decode cX6_find 97 = .ok (.iinc 2 1, 3) := by decide +kernel
theorem dX6_find_100 : decode cX6_find 100 = .ok (.goto (-68), 3) := by decide +kernel
theorem dX6_find_103 : decode cX6_find 103 = .ok (.aload_n 0, 1) := by decide +kernel
theorem dX6_find_104 : decode cX6_find 104 = .ok (.getfield 15, 3) := by decide +kernel
theorem dX6_find_107 : decode cX6_find 107 = .ok (.invokestatic 41, 3) := by decide +kernel
theorem dX6_find_110 : decode cX6_find 110 = .ok (.iconst 0, 1) := by decide +kernel
theorem dX6_find_111 : decode cX6_find 111 = .ok (.istore_n 2, 1) := by decide +kernel
theorem dX6_find_112 : decode cX6_find 112 = .ok (.iload_n 2, 1) := by decide +kernel
theorem dX6_find_113 : decode cX6_find 113 = .ok (.aload_n 1, 1) := by decide +kernel
theorem dX6_find_114 : decode cX6_find 114 = .ok (.getfield 18, 3) := by decide +kernel
theorem dX6_find_117 : decode cX6_find 117 = .ok (.if_icmp .ge 106, 3) := by decide +kernel
theorem dX6_find_120 : decode cX6_find 120 = .ok (.aload_n 1, 1) := by decide +kernel
theorem dX6_find_121 : decode cX6_find 121 = .ok (.iload_n 2, 1) := by decide +kernel
theorem dX6_find_122 : decode cX6_find 122 = .ok (.invokestatic 24, 3) := by decide +kernel
theorem dX6_find_125 : decode cX6_find 125 = .ok (.ifCond .eq 92, 3) := by decide +kernel
theorem dX6_find_128 : decode cX6_find 128 = .ok (.aload_n 1, 1) := by decide +kernel
theorem dX6_find_129 : decode cX6_find 129 = .ok (.getfield 28, 3) := by decide +kernel
theorem dX6_find_132 : decode cX6_find 132 = .ok (.iload_n 2, 1) := by decide +kernel
theorem dX6_find_133 : decode cX6_find 133 = .ok (.iaload, 1) := by decide +kernel
theorem dX6_find_134 : decode cX6_find 134 = .ok (.bipush 61, 2) := by decide +kernel
theorem dX6_find_136 : decode cX6_find 136 = .ok (.if_icmp .eq 81, 3) := by decide +kernel
theorem dX6_find_139 : decode cX6_find 139 = .ok (.aload_n 1, 1) := by decide +kernel
theorem dX6_find_140 : decode cX6_find 140 = .ok (.getfield 28, 3) := by decide +kernel
theorem dX6_find_143 : decode cX6_find 143 = .ok (.iload_n 2, 1) := by decide +kernel
theorem dX6_find_144 : decode cX6_find 144 = .ok (.iaload, 1) := by decide +kernel
theorem dX6_find_145 : decode cX6_find 145 = .ok (.bipush 62, 2) := by decide +kernel
theorem dX6_find_147 : decode cX6_find 147 = .ok (.if_icmp .ne 7, 3) := by decide +kernel
theorem dX6_find_150 : decode cX6_find 150 = .ok (.iconst 1, 1) := by decide +kernel
theorem dX6_find_151 : decode cX6_find 151 = .ok (.goto 4, 3) := by decide +kernel
theorem dX6_find_154 : decode cX6_find 154 = .ok (.iconst 0, 1) := by decide +kernel
theorem dX6_find_155 : decode cX6_find 155 = .ok (.istore_n 3, 1) := by decide +kernel
theorem dX6_find_156 : decode cX6_find 156 = .ok (.iload_n 3, 1) := by decide +kernel
theorem dX6_find_157 : decode cX6_find 157 = .ok (.ifCond .eq 12, 3) := by decide +kernel
theorem dX6_find_160 : decode cX6_find 160 = .ok (.aload_n 1, 1) := by decide +kernel
theorem dX6_find_161 : decode cX6_find 161 = .ok (.getfield 31, 3) := by decide +kernel
theorem dX6_find_164 : decode cX6_find 164 = .ok (.iload_n 2, 1) := by decide +kernel
theorem dX6_find_165 : decode cX6_find 165 = .ok (.iaload, 1) := by decide +kernel
theorem dX6_find_166 : decode cX6_find 166 = .ok (.goto 9, 3) := by decide +kernel
theorem dX6_find_169 : decode cX6_find 169 = .ok (.aload_n 1, 1) := by decide +kernel
theorem dX6_find_170 : decode cX6_find 170 = .ok (.getfield 34, 3) := by decide +kernel
theorem dX6_find_173 : decode cX6_find 173 = .ok (.iload_n 2, 1) := by decide +kernel
theorem dX6_find_174 : decode cX6_find 174 = .ok (.iaload, 1) := by decide +kernel
theorem dX6_find_175 : decode cX6_find 175 = .ok (.istore 4, 2) := by decide +kernel
theorem dX6_find_177 : decode cX6_find 177 = .ok (.iload_n 3, 1) := by decide +kernel
theorem dX6_find_178 : decode cX6_find 178 = .ok (.ifCond .eq 12, 3) := by decide +kernel
theorem dX6_find_181 : decode cX6_find 181 = .ok (.aload_n 1, 1) := by decide +kernel
theorem dX6_find_182 : decode cX6_find 182 = .ok (.getfield 34, 3) := by decide +kernel
theorem dX6_find_185 : decode cX6_find 185 = .ok (.iload_n 2, 1) := by decide +kernel
theorem dX6_find_186 : decode cX6_find 186 = .ok (.iaload, 1) := by decide +kernel
theorem dX6_find_187 : decode cX6_find 187 = .ok (.goto 9, 3) := by decide +kernel
theorem dX6_find_190 : decode cX6_find 190 = .ok (.aload_n 1, 1) := by decide +kernel
theorem dX6_find_191 : decode cX6_find 191 = .ok (.getfield 31, 3) := by decide +kernel
theorem dX6_find_194 : decode cX6_find 194 = .ok (.iload_n 2, 1) := by decide +kernel
theorem dX6_find_195 : decode cX6_find 195 = .ok (.iaload, 1) := by decide +kernel
theorem dX6_find_196 : decode cX6_find 196 = .ok (.istore 5, 2) := by decide +kernel
theorem dX6_find_198 : decode cX6_find 198 = .ok (.aload_n 0, 1) := by decide +kernel
theorem dX6_find_199 : decode cX6_find 199 = .ok (.getfield 9, 3) := by decide +kernel
theorem dX6_find_202 : decode cX6_find 202 = .ok (.aload_n 0, 1) := by decide +kernel
theorem dX6_find_203 : decode cX6_find 203 = .ok (.iload 4, 2) := by decide +kernel
theorem dX6_find_205 : decode cX6_find 205 = .ok (.invokevirtual 45, 3) := by decide +kernel
theorem dX6_find_208 : decode cX6_find 208 = .ok (.aload_n 0, 1) := by decide +kernel
theorem dX6_find_209 : decode cX6_find 209 = .ok (.iload 5, 2) := by decide +kernel
theorem dX6_find_211 : decode cX6_find 211 = .ok (.invokevirtual 45, 3) := by decide +kernel
theorem dX6_find_214 : decode cX6_find 214 = .ok (.invokestatic 37, 3) := by decide +kernel
theorem dX6_find_217 : decode cX6_find 217 = .ok (.iinc 2 1, 3) := by decide +kernel
theorem dX6_find_220 : decode cX6_find 220 = .ok (.goto (-108), 3) := by decide +kernel
theorem dX6_find_223 : decode cX6_find 223 = .ok (.aload_n 0, 1) := by decide +kernel
theorem dX6_find_224 : decode cX6_find 224 = .ok (.getfield 9, 3) := by decide +kernel
theorem dX6_find_227 : decode cX6_find 227 = .ok (.invokestatic 41, 3) := by decide +kernel
theorem dX6_find_230 : decode cX6_find 230 = .ok (.return_, 1) := by decide +kernel
set_option maxRecDepth 20000 in
theorem ggX6_contradictsItself_X11_has : GoodIn wsX6_contradictsItself wsX11_has := goodIn_r _ [4] (by decide +kernel) (by decide +kernel)
set_option maxRecDepth 20000 in
theorem gX6_contradictsItself_X11_has_n49 : GoodIn wsX6_contradictsItself (wsX11_has) := ggX6_contradictsItself_X11_has
theorem dX6_contradictsItself_0 : decode cX6_contradictsItself 0 = .ok (.iconst 0, 1) := by decide +kernel
theorem dX6_contradictsItself_1 : decode cX6_contradictsItself 1 = .ok (.istore_n 1, 1) := by decide +kernel
theorem dX6_contradictsItself_2 : decode cX6_contradictsItself 2 = .ok (.iload_n 1, 1) := by decide +kernel
theorem dX6_contradictsItself_3 : decode cX6_contradictsItself 3 = .ok (.bipush 16, 2) := by decide +kernel
theorem dX6_contradictsItself_5 : decode cX6_contradictsItself 5 = .ok (.if_icmp .ge 24, 3) := by decide +kernel
theorem dX6_contradictsItself_8 : decode cX6_contradictsItself 8 = .ok (.aload_n 0, 1) := by decide +kernel
theorem dX6_contradictsItself_9 : decode cX6_contradictsItself 9 = .ok (.getfield 9, 3) := by decide +kernel
theorem dX6_contradictsItself_12 : decode cX6_contradictsItself 12 = .ok (.iload_n 1, 1) := by decide +kernel
theorem dX6_contradictsItself_13 : decode cX6_contradictsItself 13 = .ok (.iaload, 1) := by decide +kernel
theorem dX6_contradictsItself_14 : decode cX6_contradictsItself 14 = .ok (.iload_n 1, 1) := by decide +kernel
theorem dX6_contradictsItself_15 : decode cX6_contradictsItself 15 = .ok (.invokestatic 49, 3) := by decide +kernel
theorem dX6_contradictsItself_18 : decode cX6_contradictsItself 18 = .ok (.ifCond .eq 5, 3) := by decide +kernel
theorem dX6_contradictsItself_21 : decode cX6_contradictsItself 21 = .ok (.iconst 1, 1) := by decide +kernel
theorem dX6_contradictsItself_22 : decode cX6_contradictsItself 22 = .ok (.ireturn, 1) := by decide +kernel
theorem dX6_contradictsItself_23 : decode cX6_contradictsItself 23 = .ok (.iinc 1 1, 3) := by decide +kernel
theorem dX6_contradictsItself_26 : decode cX6_contradictsItself 26 = .ok (.goto (-24), 3) := by decide +kernel
theorem dX6_contradictsItself_29 : decode cX6_contradictsItself 29 = .ok (.iconst 0, 1) := by decide +kernel
theorem dX6_contradictsItself_30 : decode cX6_contradictsItself 30 = .ok (.ireturn, 1) := by decide +kernel
set_option maxRecDepth 20000 in
theorem ggX6_isOneEach_J6_bitCount_0f7a4 : GoodIn wsX6_isOneEach wsJ6_bitCount_0f7a4 := goodIn_r _ [6, 7, 8, 9] (by decide +kernel) (by decide +kernel)
set_option maxRecDepth 20000 in
theorem gX6_isOneEach_J6_bitCount_0f7a4 : GoodIn wsX6_isOneEach (va_wsS RX6 53 yJ6_bitCount_0f7a4 wsJ6_bitCount_0f7a4) := goodIn_app (goodIn_of _ (by decide +kernel)) ggX6_isOneEach_J6_bitCount_0f7a4
theorem dX6_isOneEach_0 : decode cX6_isOneEach 0 = .ok (.aload_n 0, 1) := by decide +kernel
theorem dX6_isOneEach_1 : decode cX6_isOneEach 1 = .ok (.getfield 31, 3) := by decide +kernel
theorem dX6_isOneEach_4 : decode cX6_isOneEach 4 = .ok (.iload_n 1, 1) := by decide +kernel
theorem dX6_isOneEach_5 : decode cX6_isOneEach 5 = .ok (.iaload, 1) := by decide +kernel
theorem dX6_isOneEach_6 : decode cX6_isOneEach 6 = .ok (.invokestatic 53, 3) := by decide +kernel
theorem dX6_isOneEach_9 : decode cX6_isOneEach 9 = .ok (.iconst 1, 1) := by decide +kernel
theorem dX6_isOneEach_10 : decode cX6_isOneEach 10 = .ok (.if_icmp .ne 20, 3) := by decide +kernel
theorem dX6_isOneEach_13 : decode cX6_isOneEach 13 = .ok (.aload_n 0, 1) := by decide +kernel
theorem dX6_isOneEach_14 : decode cX6_isOneEach 14 = .ok (.getfield 34, 3) := by decide +kernel
theorem dX6_isOneEach_17 : decode cX6_isOneEach 17 = .ok (.iload_n 1, 1) := by decide +kernel
theorem dX6_isOneEach_18 : decode cX6_isOneEach 18 = .ok (.iaload, 1) := by decide +kernel
theorem dX6_isOneEach_19 : decode cX6_isOneEach 19 = .ok (.invokestatic 53, 3) := by decide +kernel
theorem dX6_isOneEach_22 : decode cX6_isOneEach 22 = .ok (.iconst 1, 1) := by decide +kernel
theorem dX6_isOneEach_23 : decode cX6_isOneEach 23 = .ok (.if_icmp .ne 7, 3) := by decide +kernel
theorem dX6_isOneEach_26 : decode cX6_isOneEach 26 = .ok (.iconst 1, 1) := by decide +kernel
theorem dX6_isOneEach_27 : decode cX6_isOneEach 27 = .ok (.goto 4, 3) := by decide +kernel
theorem dX6_isOneEach_30 : decode cX6_isOneEach 30 = .ok (.iconst 0, 1) := by decide +kernel
theorem dX6_isOneEach_31 : decode cX6_isOneEach 31 = .ok (.ireturn, 1) := by decide +kernel
theorem dX6_allAlike_0 : decode cX6_allAlike 0 = .ok (.iconst 0, 1) := by decide +kernel
theorem dX6_allAlike_1 : decode cX6_allAlike 1 = .ok (.istore_n 2, 1) := by decide +kernel
theorem dX6_allAlike_2 : decode cX6_allAlike 2 = .ok (.iload_n 2, 1) := by decide +kernel
theorem dX6_allAlike_3 : decode cX6_allAlike 3 = .ok (.bipush 16, 2) := by decide +kernel
theorem dX6_allAlike_5 : decode cX6_allAlike 5 = .ok (.if_icmp .ge 23, 3) := by decide +kernel
theorem dX6_allAlike_8 : decode cX6_allAlike 8 = .ok (.iload_n 1, 1) := by decide +kernel
theorem dX6_allAlike_9 : decode cX6_allAlike 9 = .ok (.iconst 1, 1) := by decide +kernel
theorem dX6_allAlike_10 : decode cX6_allAlike 10 = .ok (.iload_n 2, 1) := by decide +kernel
theorem dX6_allAlike_11 : decode cX6_allAlike 11 = .ok (.ishl, 1) := by decide +kernel
theorem dX6_allAlike_12 : decode cX6_allAlike 12 = .ok (.if_icmp .ne 10, 3) := by decide +kernel
theorem dX6_allAlike_15 : decode cX6_allAlike 15 = .ok (.aload_n 0, 1) := by decide +kernel
theorem dX6_allAlike_16 : decode cX6_allAlike 16 = .ok (.getfield 15, 3) := by decide +kernel
theorem dX6_allAlike_19 : decode cX6_allAlike 19 = .ok (.iload_n 2, 1) := by decide +kernel
theorem dX6_allAlike_20 : decode cX6_allAlike 20 = .ok (.iaload, 1) := by decide +kernel
theorem dX6_allAlike_21 : decode cX6_allAlike 21 = .ok (.ireturn, 1) := by decide +kernel
theorem dX6_allAlike_22 : decode cX6_allAlike 22 = .ok (.iinc 2 1, 3) := by decide +kernel
theorem dX6_allAlike_25 : decode cX6_allAlike 25 = .ok (.goto (-23), 3) := by decide +kernel
theorem dX6_allAlike_28 : decode cX6_allAlike 28 = .ok (.iload_n 1, 1) := by decide +kernel
theorem dX6_allAlike_29 : decode cX6_allAlike 29 = .ok (.ireturn, 1) := by decide +kernel
set_option maxRecDepth 20000 in
theorem ggX6_join_X11_has : GoodIn wsX6_join wsX11_has := goodIn_r _ [3] (by decide +kernel) (by decide +kernel)
set_option maxRecDepth 20000 in
theorem gX6_join_X11_has_n49 : GoodIn wsX6_join (wsX11_has) := ggX6_join_X11_has
theorem dX6_join_0 : decode cX6_join 0 = .ok (.iconst 0, 1) := by decide +kernel
theorem dX6_join_1 : decode cX6_join 1 = .ok (.istore_n 3, 1) := by decide +kernel
theorem dX6_join_2 : decode cX6_join 2 = .ok (.iload_n 3, 1) := by decide +kernel
theorem dX6_join_3 : decode cX6_join 3 = .ok (.bipush 16, 2) := by decide +kernel
theorem dX6_join_5 : decode cX6_join 5 = .ok (.if_icmp .ge 28, 3) := by decide +kernel
theorem dX6_join_8 : decode cX6_join 8 = .ok (.aload_n 0, 1) := by decide +kernel
theorem dX6_join_9 : decode cX6_join 9 = .ok (.iload_n 3, 1) := by decide +kernel
theorem dX6_join_10 : decode cX6_join 10 = .ok (.dup2, 1) := by decide +kernel
theorem dX6_join_11 : decode cX6_join 11 = .ok (.iaload, 1) := by decide +kernel
theorem dX6_join_12 : decode cX6_join 12 = .ok (.iload_n 1, 1) := by decide +kernel
theorem dX6_join_13 : decode cX6_join 13 = .ok (.iload_n 3, 1) := by decide +kernel
theorem dX6_join_14 : decode cX6_join 14 = .ok (.invokestatic 49, 3) := by decide +kernel
theorem dX6_join_17 : decode cX6_join 17 = .ok (.ifCond .eq 7, 3) := by decide +kernel
theorem dX6_join_20 : decode cX6_join 20 = .ok (.iload_n 2, 1) := by decide +kernel
theorem dX6_join_21 : decode cX6_join 21 = .ok (.goto 4, 3) := by decide +kernel
theorem dX6_join_24 : decode cX6_join 24 = .ok (.iconst 0, 1) := by decide +kernel
theorem dX6_join_25 : decode cX6_join 25 = .ok (.ior, 1) := by decide +kernel
theorem dX6_join_26 : decode cX6_join 26 = .ok (.iastore, 1) := by decide +kernel
theorem dX6_join_27 : decode cX6_join 27 = .ok (.iinc 3 1, 3) := by decide +kernel
theorem dX6_join_30 : decode cX6_join 30 = .ok (.goto (-28), 3) := by decide +kernel
theorem dX6_join_33 : decode cX6_join 33 = .ok (.return_, 1) := by decide +kernel
set_option maxRecDepth 20000 in
theorem ggX6_close_X11_has : GoodIn wsX6_close wsX11_has := goodIn_r _ [3] (by decide +kernel) (by decide +kernel)
set_option maxRecDepth 20000 in
theorem gX6_close_X11_has_n49 : GoodIn wsX6_close (wsX11_has) := ggX6_close_X11_has
theorem dX6_close_0 : decode cX6_close 0 = .ok (.iconst 0, 1) := by decide +kernel
theorem dX6_close_1 : decode cX6_close 1 = .ok (.istore_n 1, 1) := by decide +kernel
theorem dX6_close_2 : decode cX6_close 2 = .ok (.iload_n 1, 1) := by decide +kernel
theorem dX6_close_3 : decode cX6_close 3 = .ok (.bipush 16, 2) := by decide +kernel
theorem dX6_close_5 : decode cX6_close 5 = .ok (.if_icmp .ge 46, 3) := by decide +kernel
theorem dX6_close_8 : decode cX6_close 8 = .ok (.iconst 0, 1) := by decide +kernel
theorem dX6_close_9 : decode cX6_close 9 = .ok (.istore_n 2, 1) := by decide +kernel
theorem dX6_close_10 : decode cX6_close 10 = .ok (.iload_n 2, 1) := by decide +kernel
theorem dX6_close_11 : decode cX6_close 11 = .ok (.bipush 16, 2) := by decide +kernel
theorem dX6_close_13 : decode cX6_close 13 = .ok (.if_icmp .ge 32, 3) := by decide +kernel
theorem dX6_close_16 : decode cX6_close 16 = .ok (.aload_n 0, 1) := by decide +kernel
theorem dX6_close_17 : decode cX6_close 17 = .ok (.iload_n 2, 1) := by decide +kernel
theorem dX6_close_18 : decode cX6_close 18 = .ok (.dup2, 1) := by decide +kernel
theorem dX6_close_19 : decode cX6_close 19 = .ok (.iaload, 1) := by decide +kernel
theorem dX6_close_20 : decode cX6_close 20 = .ok (.aload_n 0, 1) := by decide +kernel
theorem dX6_close_21 : decode cX6_close 21 = .ok (.iload_n 2, 1) := by decide +kernel
theorem dX6_close_22 : decode cX6_close 22 = .ok (.iaload, 1) := by decide +kernel
theorem dX6_close_23 : decode cX6_close 23 = .ok (.iload_n 1, 1) := by decide +kernel
theorem dX6_close_24 : decode cX6_close 24 = .ok (.invokestatic 49, 3) := by decide +kernel
theorem dX6_close_27 : decode cX6_close 27 = .ok (.ifCond .eq 9, 3) := by decide +kernel
theorem dX6_close_30 : decode cX6_close 30 = .ok (.aload_n 0, 1) := by decide +kernel
theorem dX6_close_31 : decode cX6_close 31 = .ok (.iload_n 1, 1) := by decide +kernel
theorem dX6_close_32 : decode cX6_close 32 = .ok (.iaload, 1) := by decide +kernel
theorem dX6_close_33 : decode cX6_close 33 = .ok (.goto 4, 3) := by decide +kernel
theorem dX6_close_36 : decode cX6_close 36 = .ok (.iconst 0, 1) := by decide +kernel
theorem dX6_close_37 : decode cX6_close 37 = .ok (.ior, 1) := by decide +kernel
theorem dX6_close_38 : decode cX6_close 38 = .ok (.iastore, 1) := by decide +kernel
theorem dX6_close_39 : decode cX6_close 39 = .ok (.iinc 2 1, 3) := by decide +kernel
theorem dX6_close_42 : decode cX6_close 42 = .ok (.goto (-32), 3) := by decide +kernel
theorem dX6_close_45 : decode cX6_close 45 = .ok (.iinc 1 1, 3) := by decide +kernel
theorem dX6_close_48 : decode cX6_close 48 = .ok (.goto (-46), 3) := by decide +kernel
theorem dX6_close_51 : decode cX6_close 51 = .ok (.return_, 1) := by decide +kernel
theorem dX7_init_0 : decode cX7_init 0 = .ok (.aload_n 0, 1) := by decide +kernel
theorem dX7_init_1 : decode cX7_init 1 = .ok (.invokespecial 3, 3) := by decide +kernel
theorem dX7_init_4 : decode cX7_init 4 = .ok (.aload_n 0, 1) := by decide +kernel
theorem dX7_init_5 : decode cX7_init 5 = .ok (.iconst 0, 1) := by decide +kernel
theorem dX7_init_6 : decode cX7_init 6 = .ok (.putfield 9, 3) := by decide +kernel
theorem dX7_init_9 : decode cX7_init 9 = .ok (.aload_n 0, 1) := by decide +kernel
theorem dX7_init_10 : decode cX7_init 10 = .ok (.iconst 5, 1) := by decide +kernel
theorem dX7_init_11 : decode cX7_init 11 = .ok (.putfield 15, 3) := by decide +kernel
theorem dX7_init_14 : decode cX7_init 14 = .ok (.aload_n 0, 1) := by decide +kernel
theorem dX7_init_15 : decode cX7_init 15 = .ok (.iconst 0, 1) := by decide +kernel
theorem dX7_init_16 : decode cX7_init 16 = .ok (.putfield 18, 3) := by decide +kernel
theorem dX7_init_19 : decode cX7_init 19 = .ok (.aload_n 0, 1) := by decide +kernel
theorem dX7_init_20 : decode cX7_init 20 = .ok (.iconst 0, 1) := by decide +kernel
theorem dX7_init_21 : decode cX7_init 21 = .ok (.putfield 21, 3) := by decide +kernel
theorem dX7_init_24 : decode cX7_init 24 = .ok (.aload_n 0, 1) := by decide +kernel
theorem dX7_init_25 : decode cX7_init 25 = .ok (.iconst 0, 1) := by decide +kernel
theorem dX7_init_26 : decode cX7_init 26 = .ok (.putfield 24, 3) := by decide +kernel
theorem dX7_init_29 : decode cX7_init 29 = .ok (.aload_n 0, 1) := by decide +kernel
theorem dX7_init_30 : decode cX7_init 30 = .ok (.iconst 0, 1) := by decide +kernel
theorem dX7_init_31 : decode cX7_init 31 = .ok (.putfield 27, 3) := by decide +kernel
theorem dX7_init_34 : decode cX7_init 34 = .ok (.return_, 1) := by decide +kernel
set_option maxRecDepth 20000 in
theorem ggX7_pass_X11_has : GoodIn wsX7_pass wsX11_has := goodIn_r _ [13] (by decide +kernel) (by decide +kernel)
set_option maxRecDepth 20000 in
theorem gX7_pass_X11_has_n44 : GoodIn wsX7_pass (wsX11_has) := ggX7_pass_X11_has
set_option maxRecDepth 20000 in
theorem ggX7_pass_X7_visit : GoodIn wsX7_pass wsX7_visit := goodIn_r _ [18, 19, 20, 8, 21, 22, 23, 24, 25, 26, 27, 28, 29, 30, 31, 32, 33, 34, 35, 36, 37, 38, 39, 40, 41, 42, 43, 44, 45, 46, 47, 48, 49, 50, 51, 52, 53, 54, 55, 56, 57, 58, 59, 60, 61, 62, 63, 64, 65, 66, 67, 12, 68, 69, 7, 9, 70, 71, 72, 73, 74, 75, 76, 77, 78, 79, 80, 11, 13, 81, 82, 83, 84, 85, 86, 87, 17, 88, 4, 89, 90, 91, 92, 93, 94, 95, 96, 97, 98, 99, 100, 101, 102, 103, 104, 105, 106, 107, 108, 109, 110, 111, 112, 113, 114, 115, 116, 6, 2, 117, 3, 1, 124, 125, 126, 127, 128, 129, 130, 131, 132, 133, 134, 135, 136, 137, 138, 139, 140, 141, 118, 119, 120, 121, 122, 123] (by decide +kernel) (by decide +kernel)
set_option maxRecDepth 20000 in
theorem gX7_pass_X7_visit : GoodIn wsX7_pass (wsV RX7 48 RX7 yX7_visit wsX7_visit) := goodIn_app (goodIn_of _ (by decide +kernel)) ggX7_pass_X7_visit
theorem dX7_pass_0 : decode cX7_pass 0 = .ok (.aload_n 0, 1) := by decide +kernel
theorem dX7_pass_1 : decode cX7_pass 1 = .ok (.iconst 0, 1) := by decide +kernel
theorem dX7_pass_2 : decode cX7_pass 2 = .ok (.putfield 18, 3) := by decide +kernel
theorem dX7_pass_5 : decode cX7_pass 5 = .ok (.aload_n 0, 1) := by decide +kernel
theorem dX7_pass_6 : decode cX7_pass 6 = .ok (.iconst 0, 1) := by decide +kernel
theorem dX7_pass_7 : decode cX7_pass 7 = .ok (.putfield 21, 3) := by decide +kernel
theorem dX7_pass_10 : decode cX7_pass 10 = .ok (.aload_n 0, 1) := by decide +kernel
theorem dX7_pass_11 : decode cX7_pass 11 = .ok (.iconst 0, 1) := by decide +kernel
theorem dX7_pass_12 : decode cX7_pass 12 = .ok (.putfield 24, 3) := by decide +kernel
theorem dX7_pass_15 : decode cX7_pass 15 = .ok (.aload_n 0, 1) := by decide +kernel
theorem dX7_pass_16 : decode cX7_pass 16 = .ok (.iconst 0, 1) := by decide +kernel
theorem dX7_pass_17 : decode cX7_pass 17 = .ok (.putfield 27, 3) := by decide +kernel
theorem dX7_pass_20 : decode cX7_pass 20 = .ok (.iload_n 3, 1) := by decide +kernel
theorem dX7_pass_21 : decode cX7_pass 21 = .ok (.sipush 9999, 3) := by decide +kernel
theorem dX7_pass_24 : decode cX7_pass 24 = .ok (.aload_n 1, 1) := by decide +kernel
theorem dX7_pass_25 : decode cX7_pass 25 = .ok (.getfield 30, 3) := by decide +kernel
theorem dX7_pass_28 : decode cX7_pass 28 = .ok (.isub, 1) := by decide +kernel
theorem dX7_pass_29 : decode cX7_pass 29 = .ok (.invokestatic 35, 3) := by decide +kernel
theorem dX7_pass_32 : decode cX7_pass 32 = .ok (.istore 4, 2) := by decide +kernel
theorem dX7_pass_34 : decode cX7_pass 34 = .ok (.iconst 0, 1) := by decide +kernel
theorem dX7_pass_35 : decode cX7_pass 35 = .ok (.istore 5, 2) := by decide +kernel
theorem dX7_pass_37 : decode cX7_pass 37 = .ok (.iload 5, 2) := by decide +kernel
theorem dX7_pass_39 : decode cX7_pass 39 = .ok (.iload 4, 2) := by decide +kernel
theorem dX7_pass_41 : decode cX7_pass 41 = .ok (.if_icmp .ge 55, 3) := by decide +kernel
theorem dX7_pass_44 : decode cX7_pass 44 = .ok (.iconst 0, 1) := by decide +kernel
theorem dX7_pass_45 : decode cX7_pass 45 = .ok (.istore 6, 2) := by decide +kernel
theorem dX7_pass_47 : decode cX7_pass 47 = .ok (.iload 6, 2) := by decide +kernel
theorem dX7_pass_49 : decode cX7_pass 49 = .ok (.bipush 16, 2) := by decide +kernel
theorem dX7_pass_51 : decode cX7_pass 51 = .ok (.if_icmp .ge 29, 3) := by decide +kernel
theorem dX7_pass_54 : decode cX7_pass 54 = .ok (.aload_n 1, 1) := by decide +kernel
theorem dX7_pass_55 : decode cX7_pass 55 = .ok (.getfield 41, 3) := by decide +kernel
theorem dX7_pass_58 : decode cX7_pass 58 = .ok (.iload 6, 2) := by decide +kernel
theorem dX7_pass_60 : decode cX7_pass 60 = .ok (.invokestatic 44, 3) := by decide +kernel
theorem dX7_pass_63 : decode cX7_pass 63 = .ok (.ifCond .eq 11, 3) := by decide +kernel
theorem dX7_pass_66 : decode cX7_pass 66 = .ok (.aload_n 0, 1) := by decide +kernel
theorem dX7_pass_67 : decode cX7_pass 67 = .ok (.aload_n 1, 1) := by decide +kernel
theorem dX7_pass_68 : decode cX7_pass 68 = .ok (.aload_n 2, 1) := by decide +kernel
theorem dX7_pass_69 : decode cX7_pass 69 = .ok (.iload 6, 2) := by decide +kernel
theorem dX7_pass_71 : decode cX7_pass 71 = .ok (.invokevirtual 48, 3) := by decide +kernel
theorem dX7_pass_74 : decode cX7_pass 74 = .ok (.iinc 6 1, 3) := by decide +kernel
theorem dX7_pass_77 : decode cX7_pass 77 = .ok (.goto (-30), 3) := by decide +kernel
theorem dX7_pass_80 : decode cX7_pass 80 = .ok (.aload_n 1, 1) := by decide +kernel
theorem dX7_pass_81 : decode cX7_pass 81 = .ok (.dup, 1) := by decide +kernel
theorem dX7_pass_82 : decode cX7_pass 82 = .ok (.getfield 30, 3) := by decide +kernel
theorem dX7_pass_85 : decode cX7_pass 85 = .ok (.iconst 1, 1) := by decide +kernel
theorem dX7_pass_86 : decode cX7_pass 86 = .ok (.iadd, 1) := by decide +kernel
theorem dX7_pass_87 : decode cX7_pass 87 = .ok (.putfield 30, 3) := by decide +kernel
theorem dX7_pass_90 : decode cX7_pass 90 = .ok (.iinc 5 1, 3) := by decide +kernel
theorem dX7_pass_93 : decode cX7_pass 93 = .ok (.goto (-56), 3) := by decide +kernel
theorem dX7_pass_96 : decode cX7_pass 96 = .ok (.return_, 1) := by decide +kernel
set_option maxRecDepth 20000 in
theorem ggX7_visit_X2_look : GoodIn wsX7_visit wsX2_look := goodIn_r _ [11, 12, 13, 14, 15, 16, 17, 18, 19, 20, 21, 22, 23, 24, 25, 120, 121, 122, 123, 124, 125, 126, 127, 128, 129, 112, 113, 114, 115, 116, 117, 118, 119] (by decide +kernel) (by decide +kernel)
set_option maxRecDepth 20000 in
theorem gX7_visit_X2_look : GoodIn wsX7_visit (wsV RX7 52 RX2 yX2_look wsX2_look) := goodIn_app (goodIn_of _ (by decide +kernel)) ggX7_visit_X2_look
set_option maxRecDepth 20000 in
theorem ggX7_visit_X2_say : GoodIn wsX7_visit wsX2_say := goodIn_r _ [29, 30, 31, 32, 33, 34, 10, 35, 36, 37, 38, 39, 40, 41, 42, 43, 44, 45, 12, 46, 2, 3, 4, 47, 48, 49, 50, 51, 52, 53, 54, 55, 56, 120, 121, 122, 123, 124, 125, 126, 127, 128, 129] (by decide +kernel) (by decide +kernel)
set_option maxRecDepth 20000 in
theorem gX7_visit_X2_say : GoodIn wsX7_visit (wsV RX7 58 RX2 yX2_say wsX2_say) := goodIn_app (goodIn_of _ (by decide +kernel)) ggX7_visit_X2_say
set_option maxRecDepth 20000 in
theorem ggX7_visit_X9_changeWeight : GoodIn wsX7_visit wsX9_changeWeight := goodIn_r _ [61, 62, 50, 51, 52, 53, 54, 3, 55, 56, 2, 4, 112, 113, 114, 115, 116, 117, 118, 119] (by decide +kernel) (by decide +kernel)
set_option maxRecDepth 20000 in
theorem gX7_visit_X9_changeWeight : GoodIn wsX7_visit (wsV RX7 64 RX9 yX9_changeWeight wsX9_changeWeight) := goodIn_app (goodIn_of _ (by decide +kernel)) ggX7_visit_X9_changeWeight
set_option maxRecDepth 20000 in
theorem ggX7_visit_X2_setWeight : GoodIn wsX7_visit wsX2_setWeight := goodIn_r _ [66, 12, 120, 121, 122, 123, 124, 125, 126, 127, 128, 129] (by decide +kernel) (by decide +kernel)
set_option maxRecDepth 20000 in
theorem gX7_visit_X2_setWeight : GoodIn wsX7_visit (wsV RX7 72 RX2 yX2_setWeight wsX2_setWeight) := goodIn_app (goodIn_of _ (by decide +kernel)) ggX7_visit_X2_setWeight
set_option maxRecDepth 20000 in
theorem ggX7_visit_X11_has : GoodIn wsX7_visit wsX11_has := goodIn_r _ [68] (by decide +kernel) (by decide +kernel)
set_option maxRecDepth 20000 in
theorem gX7_visit_X11_has_n44 : GoodIn wsX7_visit (wsX11_has) := ggX7_visit_X11_has
set_option maxRecDepth 20000 in
theorem ggX7_visit_X2_anyHolds : GoodIn wsX7_visit wsX2_anyHolds := goodIn_r _ [72, 32, 33, 34, 10, 35, 36, 37, 31, 38, 39, 40, 41, 42, 43, 44, 45, 12, 46, 2, 3, 4, 47, 48, 49, 120, 121, 122, 123, 124, 125, 126, 127, 128, 129] (by decide +kernel) (by decide +kernel)
set_option maxRecDepth 20000 in
theorem gX7_visit_X2_anyHolds : GoodIn wsX7_visit (wsV RX7 79 RX2 yX2_anyHolds wsX2_anyHolds) := goodIn_app (goodIn_of _ (by decide +kernel)) ggX7_visit_X2_anyHolds
set_option maxRecDepth 20000 in
theorem ggX7_visit_X7_onScale : GoodIn wsX7_visit wsX7_onScale := goodIn_r _ [77, 1, 2, 3, 4, 78, 5, 79, 26, 27, 28, 10, 29, 30, 31, 32, 33, 34, 35, 36, 37, 38, 39, 40, 41, 42, 43, 44, 45, 12, 46, 47, 48, 49, 50, 51, 52, 53, 54, 55, 56, 80, 81, 82, 83, 84, 85, 86, 87, 60, 88, 89, 90, 91, 92, 93, 94, 67, 68, 95, 96, 97, 98, 99, 100, 130, 131, 132, 133, 134, 135, 112, 113, 114, 115, 116, 117, 118, 119, 120, 121, 122, 123, 124, 125, 126, 127, 128, 129] (by decide +kernel) (by decide +kernel)
set_option maxRecDepth 20000 in
theorem gX7_visit_X7_onScale : GoodIn wsX7_visit (wsV RX7 83 RX7 yX7_onScale wsX7_onScale) := goodIn_app (goodIn_of _ (by decide +kernel)) ggX7_visit_X7_onScale
set_option maxRecDepth 20000 in
theorem ggX7_visit_X7_cross : GoodIn wsX7_visit wsX7_cross := goodIn_r _ [104, 5, 105, 106, 107, 54, 3, 55, 108, 109, 110, 6, 111, 112, 113, 114, 115, 116, 117, 118, 119, 130, 131, 132, 133, 134, 135] (by decide +kernel) (by decide +kernel)
set_option maxRecDepth 20000 in
theorem gX7_visit_X7_cross : GoodIn wsX7_visit (wsV RX7 87 RX7 yX7_cross wsX7_cross) := goodIn_app (goodIn_of _ (by decide +kernel)) ggX7_visit_X7_cross
theorem dX7_visit_0 : decode cX7_visit 0 = .ok (.aload_n 2, 1) := by decide +kernel
theorem dX7_visit_1 : decode cX7_visit 1 = .ok (.aload_n 1, 1) := by decide +kernel
theorem dX7_visit_2 : decode cX7_visit 2 = .ok (.iload_n 3, 1) := by decide +kernel
theorem dX7_visit_3 : decode cX7_visit 3 = .ok (.invokevirtual 52, 3) := by decide +kernel
theorem dX7_visit_6 : decode cX7_visit 6 = .ok (.iconst 0, 1) := by decide +kernel
theorem dX7_visit_7 : decode cX7_visit 7 = .ok (.aload_n 2, 1) := by decide +kernel
theorem dX7_visit_8 : decode cX7_visit 8 = .ok (.bipush 119, 2) := by decide +kernel
theorem dX7_visit_10 : decode cX7_visit 10 = .ok (.bipush 99, 2) := by decide +kernel
theorem dX7_visit_12 : decode cX7_visit 12 = .ok (.invokevirtual 58, 3) := by decide +kernel
theorem dX7_visit_15 : decode cX7_visit 15 = .ok (.invokestatic 61, 3) := by decide +kernel
theorem dX7_visit_18 : decode cX7_visit 18 = .ok (.istore 4, 2) := by decide +kernel
theorem dX7_visit_20 : decode cX7_visit 20 = .ok (.iconst 0, 1) := by decide +kernel
theorem dX7_visit_21 : decode cX7_visit 21 = .ok (.aload_n 2, 1) := by decide +kernel
theorem dX7_visit_22 : decode cX7_visit 22 = .ok (.bipush 108, 2) := by decide +kernel
theorem dX7_visit_24 : decode cX7_visit 24 = .ok (.bipush 99, 2) := by decide +kernel
theorem dX7_visit_26 : decode cX7_visit 26 = .ok (.invokevirtual 58, 3) := by decide +kernel
theorem dX7_visit_29 : decode cX7_visit 29 = .ok (.invokestatic 61, 3) := by decide +kernel
theorem dX7_visit_32 : decode cX7_visit 32 = .ok (.istore 5, 2) := by decide +kernel
theorem dX7_visit_34 : decode cX7_visit 34 = .ok (.aload_n 1, 1) := by decide +kernel
theorem dX7_visit_35 : decode cX7_visit 35 = .ok (.iload_n 3, 1) := by decide +kernel
theorem dX7_visit_36 : decode cX7_visit 36 = .ok (.iload 4, 2) := by decide +kernel
theorem dX7_visit_38 : decode cX7_visit 38 = .ok (.iload 5, 2) := by decide +kernel
theorem dX7_visit_40 : decode cX7_visit 40 = .ok (.isub, 1) := by decide +kernel
theorem dX7_visit_41 : decode cX7_visit 41 = .ok (.invokevirtual 64, 3) := by decide +kernel
theorem dX7_visit_44 : decode cX7_visit 44 = .ok (.aload_n 2, 1) := by decide +kernel
theorem dX7_visit_45 : decode cX7_visit 45 = .ok (.aload_n 1, 1) := by decide +kernel
theorem dX7_visit_46 : decode cX7_visit 46 = .ok (.getfield 68, 3) := by decide +kernel
theorem dX7_visit_49 : decode cX7_visit 49 = .ok (.iload_n 3, 1) := by decide +kernel
theorem dX7_visit_50 : decode cX7_visit 50 = .ok (.iaload, 1) := by decide +kernel
theorem dX7_visit_51 : decode cX7_visit 51 = .ok (.invokevirtual 72, 3) := by decide +kernel
theorem dX7_visit_54 : decode cX7_visit 54 = .ok (.aload_n 1, 1) := by decide +kernel
theorem dX7_visit_55 : decode cX7_visit 55 = .ok (.getfield 76, 3) := by decide +kernel
theorem dX7_visit_58 : decode cX7_visit 58 = .ok (.iload_n 3, 1) := by decide +kernel
theorem dX7_visit_59 : decode cX7_visit 59 = .ok (.invokestatic 44, 3) := by decide +kernel
theorem dX7_visit_62 : decode cX7_visit 62 = .ok (.ifCond .eq 29, 3) := by decide +kernel
theorem dX7_visit_65 : decode cX7_visit 65 = .ok (.aload_n 2, 1) := by decide +kernel
theorem dX7_visit_66 : decode cX7_visit 66 = .ok (.bipush 114, 2) := by decide +kernel
theorem dX7_visit_68 : decode cX7_visit 68 = .ok (.invokevirtual 79, 3) := by decide +kernel
theorem dX7_visit_71 : decode cX7_visit 71 = .ok (.ifCond .eq 42, 3) := by decide +kernel
theorem dX7_visit_74 : decode cX7_visit 74 = .ok (.aload_n 1, 1) := by decide +kernel
theorem dX7_visit_75 : decode cX7_visit 75 = .ok (.dup, 1) := by decide +kernel
theorem dX7_visit_76 : decode cX7_visit 76 = .ok (.getfield 76, 3) := by decide +kernel
theorem dX7_visit_79 : decode cX7_visit 79 = .ok (.iconst 1, 1) := by decide +kernel
theorem dX7_visit_80 : decode cX7_visit 80 = .ok (.iload_n 3, 1) := by decide +kernel
theorem dX7_visit_81 : decode cX7_visit 81 = .ok (.ishl, 1) := by decide +kernel
theorem dX7_visit_82 : decode cX7_visit 82 = .ok (.iconst (-1), 1) := by decide +kernel
theorem dX7_visit_83 : decode cX7_visit 83 = .ok (.ixor, 1) := by decide +kernel
theorem dX7_visit_84 : decode cX7_visit 84 = .ok (.iand, 1) := by decide +kernel
theorem dX7_visit_85 : decode cX7_visit 85 = .ok (.putfield 76, 3) := by decide +kernel
theorem dX7_visit_88 : decode cX7_visit 88 = .ok (.goto 25, 3) := by decide +kernel
theorem dX7_visit_91 : decode cX7_visit 91 = .ok (.aload_n 2, 1) := by decide +kernel
theorem dX7_visit_92 : decode cX7_visit 92 = .ok (.bipush 103, 2) := by decide +kernel
theorem dX7_visit_94 : decode cX7_visit 94 = .ok (.invokevirtual 79, 3) := by decide +kernel
theorem dX7_visit_97 : decode cX7_visit 97 = .ok (.ifCond .eq 16, 3) := by decide +kernel
theorem dX7_visit_100 : decode cX7_visit 100 = .ok (.aload_n 0, 1) := by decide +kernel
theorem dX7_visit_101 : decode cX7_visit 101 = .ok (.aload_n 1, 1) := by decide +kernel
theorem dX7_visit_102 : decode cX7_visit 102 = .ok (.iload_n 3, 1) := by decide +kernel
theorem dX7_visit_103 : decode cX7_visit 103 = .ok (.aload_n 0, 1) := by decide +kernel
theorem dX7_visit_104 : decode cX7_visit 104 = .ok (.aload_n 1, 1) := by decide +kernel
theorem dX7_visit_105 : decode cX7_visit 105 = .ok (.aload_n 2, 1) := by decide +kernel
theorem dX7_visit_106 : decode cX7_visit 106 = .ok (.iload_n 3, 1) := by decide +kernel
theorem dX7_visit_107 : decode cX7_visit 107 = .ok (.invokevirtual 83, 3) := by decide +kernel
theorem dX7_visit_110 : decode cX7_visit 110 = .ok (.invokevirtual 87, 3) := by decide +kernel
theorem dX7_visit_113 : decode cX7_visit 113 = .ok (.return_, 1) := by decide +kernel
set_option maxRecDepth 20000 in
theorem ggX7_onScale_X2_say : GoodIn wsX7_onScale wsX2_say := goodIn_r _ [12, 13, 14, 15, 16, 17, 11, 18, 19, 20, 21, 22, 23, 24, 25, 26, 27, 28, 29, 30, 2, 3, 4, 31, 32, 33, 34, 35, 36, 37, 38, 39, 40, 79, 80, 81, 82, 83, 84, 85, 86, 87, 88] (by decide +kernel) (by decide +kernel)
set_option maxRecDepth 20000 in
theorem gX7_onScale_X2_say : GoodIn wsX7_onScale (wsV RX7 58 RX2 yX2_say wsX2_say) := goodIn_app (goodIn_of _ (by decide +kernel)) ggX7_onScale_X2_say
set_option maxRecDepth 20000 in
theorem ggX7_onScale_X11_isWalker : GoodIn wsX7_onScale wsX11_isWalker := goodIn_r _ [42, 43, 44, 35, 45] (by decide +kernel) (by decide +kernel)
set_option maxRecDepth 20000 in
theorem gX7_onScale_X11_isWalker_n91 : GoodIn wsX7_onScale (wsX11_isWalker) := ggX7_onScale_X11_isWalker
set_option maxRecDepth 20000 in
theorem ggX7_onScale_X9_othersHere : GoodIn wsX7_onScale wsX9_othersHere := goodIn_r _ [50, 51, 52, 53, 49, 54, 55, 56, 71, 72, 73, 74, 75, 76, 77, 78] (by decide +kernel) (by decide +kernel)
set_option maxRecDepth 20000 in
theorem gX7_onScale_X9_othersHere : GoodIn wsX7_onScale (wsV RX7 94 RX9 yX9_othersHere wsX9_othersHere) := goodIn_app (goodIn_of _ (by decide +kernel)) ggX7_onScale_X9_othersHere
set_option maxRecDepth 20000 in
theorem ggX7_onScale_X11_has : GoodIn wsX7_onScale wsX11_has := goodIn_r _ [58] (by decide +kernel) (by decide +kernel)
set_option maxRecDepth 20000 in
theorem gX7_onScale_X11_has_n44 : GoodIn wsX7_onScale (wsX11_has) := ggX7_onScale_X11_has
set_option maxRecDepth 20000 in
theorem ggX7_onScale_X9_draw : GoodIn wsX7_onScale wsX9_draw := goodIn_r _ [62, 63, 64, 71, 72, 73, 74, 75, 76, 77, 78] (by decide +kernel) (by decide +kernel)
set_option maxRecDepth 20000 in
theorem gX7_onScale_X9_draw : GoodIn wsX7_onScale (wsV RX7 98 RX9 yX9_draw wsX9_draw) := goodIn_app (goodIn_of _ (by decide +kernel)) ggX7_onScale_X9_draw
theorem dX7_onScale_0 : decode cX7_onScale 0 = .ok (.iconst 0, 1) := by decide +kernel
theorem dX7_onScale_1 : decode cX7_onScale 1 = .ok (.aload_n 2, 1) := by decide +kernel
theorem dX7_onScale_2 : decode cX7_onScale 2 = .ok (.bipush 101, 2) := by decide +kernel
theorem dX7_onScale_4 : decode cX7_onScale 4 = .ok (.sipush 999, 3) := by decide +kernel
theorem dX7_onScale_7 : decode cX7_onScale 7 = .ok (.invokevirtual 58, 3) := by decide +kernel
