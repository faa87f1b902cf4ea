theorem dX12_readsLine_263 : decode cX12_readsLine 263 = .ok (.iaload, 1) := by decide +kernel
theorem dX12_readsLine_264 : decode cX12_readsLine 264 = .ok (.aload_n 0, 1) := by decide +kernel
theorem dX12_readsLine_265 : decode cX12_readsLine 265 = .ok (.getfield 143, 3) := by decide +kernel
theorem dX12_readsLine_268 : decode cX12_readsLine 268 = .ok (.iadd, 1) := by decide +kernel
theorem dX12_readsLine_269 : decode cX12_readsLine 269 = .ok (.invokestatic 249, 3) := by decide +kernel
theorem dX12_readsLine_272 : decode cX12_readsLine 272 = .ok (.iastore, 1) := by decide +kernel
theorem dX12_readsLine_273 : decode cX12_readsLine 273 = .ok (.iconst 1, 1) := by decide +kernel
theorem dX12_readsLine_274 : decode cX12_readsLine 274 = .ok (.ireturn, 1) := by decide +kernel
theorem dX12_readsLine_275 : decode cX12_readsLine 275 = .ok (.aload_n 0, 1) := by decide +kernel
theorem dX12_readsLine_276 : decode cX12_readsLine 276 = .ok (.iconst 0, 1) := by decide +kernel
theorem dX12_readsLine_277 : decode cX12_readsLine 277 = .ok (.invokevirtual 246, 3) := by decide +kernel
theorem dX12_readsLine_280 : decode cX12_readsLine 280 = .ok (.ifCond .ne 5, 3) := by decide +kernel
theorem dX12_readsLine_283 : decode cX12_readsLine 283 = .ok (.iconst 0, 1) := by decide +kernel
theorem dX12_readsLine_284 : decode cX12_readsLine 284 = .ok (.ireturn, 1) := by decide +kernel
theorem dX12_readsLine_285 : decode cX12_readsLine 285 = .ok (.aload_n 0, 1) := by decide +kernel
theorem dX12_readsLine_286 : decode cX12_readsLine 286 = .ok (.getfield 7, 3) := by decide +kernel
theorem dX12_readsLine_289 : decode cX12_readsLine 289 = .ok (.bipush 16, 2) := by decide +kernel
theorem dX12_readsLine_291 : decode cX12_readsLine 291 = .ok (.iload_n 1, 1) := by decide +kernel
theorem dX12_readsLine_292 : decode cX12_readsLine 292 = .ok (.iadd, 1) := by decide +kernel
theorem dX12_readsLine_293 : decode cX12_readsLine 293 = .ok (.iconst 1, 1) := by decide +kernel
theorem dX12_readsLine_294 : decode cX12_readsLine 294 = .ok (.aload_n 0, 1) := by decide +kernel
theorem dX12_readsLine_295 : decode cX12_readsLine 295 = .ok (.getfield 7, 3) := by decide +kernel
theorem dX12_readsLine_298 : decode cX12_readsLine 298 = .ok (.bipush 16, 2) := by decide +kernel
theorem dX12_readsLine_300 : decode cX12_readsLine 300 = .ok (.iload_n 1, 1) := by decide +kernel
theorem dX12_readsLine_301 : decode cX12_readsLine 301 = .ok (.iadd, 1) := by decide +kernel
theorem dX12_readsLine_302 : decode cX12_readsLine 302 = .ok (.iaload, 1) := by decide +kernel
theorem dX12_readsLine_303 : decode cX12_readsLine 303 = .ok (.aload_n 0, 1) := by decide +kernel
theorem dX12_readsLine_304 : decode cX12_readsLine 304 = .ok (.getfield 143, 3) := by decide +kernel
theorem dX12_readsLine_307 : decode cX12_readsLine 307 = .ok (.isub, 1) := by decide +kernel
theorem dX12_readsLine_308 : decode cX12_readsLine 308 = .ok (.invokestatic 252, 3) := by decide +kernel
theorem dX12_readsLine_311 : decode cX12_readsLine 311 = .ok (.iastore, 1) := by decide +kernel
theorem dX12_readsLine_312 : decode cX12_readsLine 312 = .ok (.iconst 1, 1) := by decide +kernel
theorem dX12_readsLine_313 : decode cX12_readsLine 313 = .ok (.ireturn, 1) := by decide +kernel
theorem dX12_readsLine_314 : decode cX12_readsLine 314 = .ok (.aload_n 0, 1) := by decide +kernel
theorem dX12_readsLine_315 : decode cX12_readsLine 315 = .ok (.iconst 1, 1) := by decide +kernel
theorem dX12_readsLine_316 : decode cX12_readsLine 316 = .ok (.aload_n 0, 1) := by decide +kernel
theorem dX12_readsLine_317 : decode cX12_readsLine 317 = .ok (.getfield 126, 3) := by decide +kernel
theorem dX12_readsLine_320 : decode cX12_readsLine 320 = .ok (.iconst 1, 1) := by decide +kernel
theorem dX12_readsLine_321 : decode cX12_readsLine 321 = .ok (.isub, 1) := by decide +kernel
theorem dX12_readsLine_322 : decode cX12_readsLine 322 = .ok (.invokevirtual 139, 3) := by decide +kernel
theorem dX12_readsLine_325 : decode cX12_readsLine 325 = .ok (.ireturn, 1) := by decide +kernel
set_option maxRecDepth 20000 in
theorem ggX12_orders_X12_in : GoodIn wsX12_orders wsX12_in := goodIn_r _ [11] (by decide +kernel) (by decide +kernel)
set_option maxRecDepth 20000 in
theorem gX12_orders_X12_in : GoodIn wsX12_orders (va_wsS RX12 105 yX12_in wsX12_in) := goodIn_app (goodIn_of _ (by decide +kernel)) ggX12_orders_X12_in
set_option maxRecDepth 20000 in
theorem ggX12_orders_X12_beginsText : GoodIn wsX12_orders wsX12_beginsText := goodIn_r _ [15, 5, 6, 16, 17, 57, 58, 59, 60, 61, 62, 63, 64, 65, 66, 67, 68, 69, 70, 71, 72, 73, 74, 75, 76, 77, 78, 79, 80, 81, 82, 83, 84, 85, 86, 87, 88, 89, 90, 91, 92, 93, 94, 95, 96, 97, 98, 99, 100, 101, 102, 103, 104, 105, 106, 107, 108] (by decide +kernel) (by decide +kernel)
set_option maxRecDepth 20000 in
theorem gX12_orders_X12_beginsText : GoodIn wsX12_orders (wsV RX12 211 RX12 yX12_beginsText wsX12_beginsText) := goodIn_app (goodIn_of _ (by decide +kernel)) ggX12_orders_X12_beginsText
set_option maxRecDepth 20000 in
theorem ggX12_orders_X12_copies : GoodIn wsX12_orders wsX12_copies := goodIn_r _ [20] (by decide +kernel) (by decide +kernel)
set_option maxRecDepth 20000 in
theorem gX12_orders_X12_copies : GoodIn wsX12_orders (va_wsS RX12 255 yX12_copies wsX12_copies) := goodIn_app (goodIn_of _ (by decide +kernel)) ggX12_orders_X12_copies
set_option maxRecDepth 20000 in
theorem ggX12_orders_X12_readsLine : GoodIn wsX12_orders wsX12_readsLine := goodIn_r _ [24, 5, 2, 3, 25, 26, 27, 28, 10, 29, 6, 30, 8, 9, 11, 31, 32, 33, 34, 7, 35, 36, 37, 38, 39, 40, 41, 42, 43, 44, 45, 46, 47, 48, 49, 50, 51, 52, 57, 58, 59, 60, 61, 62, 63, 64, 65, 66, 67, 68, 69, 70, 71, 72, 73, 74, 75, 76, 77, 78, 79, 80, 81, 82, 83, 84, 85, 86, 87, 88, 89, 90, 91, 92, 93, 94, 95, 96, 97, 98, 99, 100, 101, 102, 103, 104, 105, 106, 107, 108] (by decide +kernel) (by decide +kernel)
set_option maxRecDepth 20000 in
theorem gX12_orders_X12_readsLine : GoodIn wsX12_orders (wsV RX12 259 RX12 yX12_readsLine wsX12_readsLine) := goodIn_app (goodIn_of _ (by decide +kernel)) ggX12_orders_X12_readsLine
set_option maxRecDepth 20000 in
theorem ggX12_orders_X12_takes : GoodIn wsX12_orders wsX12_takes := goodIn_r _ [56, 5, 26, 27, 28, 10, 29, 6, 30, 31, 32, 33, 34, 7, 57, 58, 59, 60, 61, 62, 63, 64, 65, 66, 67, 68, 69, 70, 71, 72, 73, 74, 75, 76, 77, 78, 79, 80, 81, 82, 83, 84, 85, 86, 87, 88, 89, 90, 91, 92, 93, 94, 95, 96, 97, 98, 99, 100, 101, 102, 103, 104, 105, 106, 107, 108] (by decide +kernel) (by decide +kernel)
set_option maxRecDepth 20000 in
theorem gX12_orders_X12_takes : GoodIn wsX12_orders (wsV RX12 217 RX12 yX12_takes wsX12_takes) := goodIn_app (goodIn_of _ (by decide +kernel)) ggX12_orders_X12_takes
theorem dX12_orders_0 : decode cX12_orders 0 = .ok (.iload_n 1, 1) := by decide +kernel
theorem dX12_orders_1 : decode cX12_orders 1 = .ok (.iconst 1, 1) := by decide +kernel
theorem dX12_orders_2 : decode cX12_orders 2 = .ok (.bipush 120, 2) := by decide +kernel
theorem dX12_orders_4 : decode cX12_orders 4 = .ok (.invokestatic 105, 3) := by decide +kernel
theorem dX12_orders_7 : decode cX12_orders 7 = .ok (.ifCond .eq 11, 3) := by decide +kernel
theorem dX12_orders_10 : decode cX12_orders 10 = .ok (.iload_n 1, 1) := by decide +kernel
theorem dX12_orders_11 : decode cX12_orders 11 = .ok (.aload_n 0, 1) := by decide +kernel
theorem dX12_orders_12 : decode cX12_orders 12 = .ok (.getfield 119, 3) := by decide +kernel
theorem dX12_orders_15 : decode cX12_orders 15 = .ok (.if_icmp .le 5, 3) := by decide +kernel
theorem dX12_orders_18 : decode cX12_orders 18 = .ok (.iconst (-1), 1) := by decide +kernel
theorem dX12_orders_19 : decode cX12_orders 19 = .ok (.ireturn, 1) := by decide +kernel
theorem dX12_orders_20 : decode cX12_orders 20 = .ok (.aload_n 0, 1) := by decide +kernel
theorem dX12_orders_21 : decode cX12_orders 21 = .ok (.iload_n 1, 1) := by decide +kernel
theorem dX12_orders_22 : decode cX12_orders 22 = .ok (.invokevirtual 211, 3) := by decide +kernel
theorem dX12_orders_25 : decode cX12_orders 25 = .ok (.aload_n 0, 1) := by decide +kernel
theorem dX12_orders_26 : decode cX12_orders 26 = .ok (.iconst 0, 1) := by decide +kernel
theorem dX12_orders_27 : decode cX12_orders 27 = .ok (.putfield 243, 3) := by decide +kernel
theorem dX12_orders_30 : decode cX12_orders 30 = .ok (.aload_n 0, 1) := by decide +kernel
theorem dX12_orders_31 : decode cX12_orders 31 = .ok (.getfield 7, 3) := by decide +kernel
theorem dX12_orders_34 : decode cX12_orders 34 = .ok (.aload_n 0, 1) := by decide +kernel
theorem dX12_orders_35 : decode cX12_orders 35 = .ok (.getfield 13, 3) := by decide +kernel
theorem dX12_orders_38 : decode cX12_orders 38 = .ok (.invokestatic 255, 3) := by decide +kernel
theorem dX12_orders_41 : decode cX12_orders 41 = .ok (.aload_n 0, 1) := by decide +kernel
theorem dX12_orders_42 : decode cX12_orders 42 = .ok (.invokevirtual 259, 3) := by decide +kernel
theorem dX12_orders_45 : decode cX12_orders 45 = .ok (.istore_n 2, 1) := by decide +kernel
theorem dX12_orders_46 : decode cX12_orders 46 = .ok (.iload_n 2, 1) := by decide +kernel
theorem dX12_orders_47 : decode cX12_orders 47 = .ok (.ifCond .eq 39, 3) := by decide +kernel
theorem dX12_orders_50 : decode cX12_orders 50 = .ok (.aload_n 0, 1) := by decide +kernel
theorem dX12_orders_51 : decode cX12_orders 51 = .ok (.getfield 126, 3) := by decide +kernel
theorem dX12_orders_54 : decode cX12_orders 54 = .ok (.aload_n 0, 1) := by decide +kernel
theorem dX12_orders_55 : decode cX12_orders 55 = .ok (.getfield 129, 3) := by decide +kernel
theorem dX12_orders_58 : decode cX12_orders 58 = .ok (.if_icmp .ge 28, 3) := by decide +kernel
theorem dX12_orders_61 : decode cX12_orders 61 = .ok (.aload_n 0, 1) := by decide +kernel
theorem dX12_orders_62 : decode cX12_orders 62 = .ok (.bipush 59, 2) := by decide +kernel
theorem dX12_orders_64 : decode cX12_orders 64 = .ok (.invokevirtual 217, 3) := by decide +kernel
theorem dX12_orders_67 : decode cX12_orders 67 = .ok (.ifCond .eq 14, 3) := by decide +kernel
theorem dX12_orders_70 : decode cX12_orders 70 = .ok (.aload_n 0, 1) := by decide +kernel
theorem dX12_orders_71 : decode cX12_orders 71 = .ok (.invokevirtual 259, 3) := by decide +kernel
theorem dX12_orders_74 : decode cX12_orders 74 = .ok (.ifCond .eq 7, 3) := by decide +kernel
theorem dX12_orders_77 : decode cX12_orders 77 = .ok (.iconst 1, 1) := by decide +kernel
theorem dX12_orders_78 : decode cX12_orders 78 = .ok (.goto 4, 3) := by decide +kernel
theorem dX12_orders_81 : decode cX12_orders 81 = .ok (.iconst 0, 1) := by decide +kernel
theorem dX12_orders_82 : decode cX12_orders 82 = .ok (.istore_n 2, 1) := by decide +kernel
theorem dX12_orders_83 : decode cX12_orders 83 = .ok (.goto (-37), 3) := by decide +kernel
theorem dX12_orders_86 : decode cX12_orders 86 = .ok (.aload_n 0, 1) := by decide +kernel
theorem dX12_orders_87 : decode cX12_orders 87 = .ok (.iconst 0, 1) := by decide +kernel
theorem dX12_orders_88 : decode cX12_orders 88 = .ok (.putfield 119, 3) := by decide +kernel
theorem dX12_orders_91 : decode cX12_orders 91 = .ok (.iload_n 2, 1) := by decide +kernel
theorem dX12_orders_92 : decode cX12_orders 92 = .ok (.ifCond .eq 8, 3) := by decide +kernel
theorem dX12_orders_95 : decode cX12_orders 95 = .ok (.aload_n 0, 1) := by decide +kernel
theorem dX12_orders_96 : decode cX12_orders 96 = .ok (.getfield 243, 3) := by decide +kernel
theorem dX12_orders_99 : decode cX12_orders 99 = .ok (.ireturn, 1) := by decide +kernel
theorem dX12_orders_100 : decode cX12_orders 100 = .ok (.aload_n 0, 1) := by decide +kernel
theorem dX12_orders_101 : decode cX12_orders 101 = .ok (.getfield 13, 3) := by decide +kernel
theorem dX12_orders_104 : decode cX12_orders 104 = .ok (.aload_n 0, 1) := by decide +kernel
theorem dX12_orders_105 : decode cX12_orders 105 = .ok (.getfield 7, 3) := by decide +kernel
theorem dX12_orders_108 : decode cX12_orders 108 = .ok (.invokestatic 255, 3) := by decide +kernel
theorem dX12_orders_111 : decode cX12_orders 111 = .ok (.aload_n 0, 1) := by decide +kernel
theorem dX12_orders_112 : decode cX12_orders 112 = .ok (.getfield 136, 3) := by decide +kernel
theorem dX12_orders_115 : decode cX12_orders 115 = .ok (.ireturn, 1) := by decide +kernel
set_option maxRecDepth 20000 in
theorem ggX12_readsLetters_X12_here : GoodIn wsX12_readsLetters wsX12_here := goodIn_r _ [7, 2, 8, 9, 18, 19, 20, 21, 22, 23, 24, 25, 26, 27, 28, 29, 30, 31, 32, 33, 34, 35, 36, 37, 38, 39, 40, 41, 42, 43, 44, 45, 46, 47, 48, 49, 50, 51, 52, 53, 54, 55, 56, 57, 58, 59, 60, 61, 62, 63, 64, 65, 66, 67, 68, 69] (by decide +kernel) (by decide +kernel)
set_option maxRecDepth 20000 in
theorem gX12_readsLetters_X12_here : GoodIn wsX12_readsLetters (wsV RX12 132 RX12 yX12_here wsX12_here) := goodIn_app (goodIn_of _ (by decide +kernel)) ggX12_readsLetters_X12_here
set_option maxRecDepth 20000 in
theorem ggX12_readsLetters_X12_in : GoodIn wsX12_readsLetters wsX12_in := goodIn_r _ [12] (by decide +kernel) (by decide +kernel)
set_option maxRecDepth 20000 in
theorem gX12_readsLetters_X12_in : GoodIn wsX12_readsLetters (va_wsS RX12 105 yX12_in wsX12_in) := goodIn_app (goodIn_of _ (by decide +kernel)) ggX12_readsLetters_X12_in
set_option maxRecDepth 20000 in
theorem ggX12_readsLetters_X12_wrongAt : GoodIn wsX12_readsLetters wsX12_wrongAt := goodIn_r _ [16, 17, 18, 19, 20, 21, 22, 23, 24, 25, 26, 27, 28, 29, 30, 31, 32, 33, 34, 35, 36, 37, 38, 39, 40, 41, 42, 43, 44, 45, 46, 47, 48, 49, 50, 51, 52, 53, 54, 55, 56, 57, 58, 59, 60, 61, 62, 63, 64, 65, 66, 67, 68, 69] (by decide +kernel) (by decide +kernel)
set_option maxRecDepth 20000 in
theorem gX12_readsLetters_X12_wrongAt : GoodIn wsX12_readsLetters (wsV RX12 139 RX12 yX12_wrongAt wsX12_wrongAt) := goodIn_app (goodIn_of _ (by decide +kernel)) ggX12_readsLetters_X12_wrongAt
theorem dX12_readsLetters_0 : decode cX12_readsLetters 0 = .ok (.aload_n 0, 1) := by decide +kernel
theorem dX12_readsLetters_1 : decode cX12_readsLetters 1 = .ok (.iconst 0, 1) := by decide +kernel
theorem dX12_readsLetters_2 : decode cX12_readsLetters 2 = .ok (.putfield 262, 3) := by decide +kernel
theorem dX12_readsLetters_5 : decode cX12_readsLetters 5 = .ok (.aload_n 0, 1) := by decide +kernel
theorem dX12_readsLetters_6 : decode cX12_readsLetters 6 = .ok (.invokevirtual 132, 3) := by decide +kernel
theorem dX12_readsLetters_9 : decode cX12_readsLetters 9 = .ok (.bipush 97, 2) := by decide +kernel
theorem dX12_readsLetters_11 : decode cX12_readsLetters 11 = .ok (.isub, 1) := by decide +kernel
theorem dX12_readsLetters_12 : decode cX12_readsLetters 12 = .ok (.iconst 0, 1) := by decide +kernel
theorem dX12_readsLetters_13 : decode cX12_readsLetters 13 = .ok (.bipush 15, 2) := by decide +kernel
theorem dX12_readsLetters_15 : decode cX12_readsLetters 15 = .ok (.invokestatic 105, 3) := by decide +kernel
theorem dX12_readsLetters_18 : decode cX12_readsLetters 18 = .ok (.ifCond .eq 58, 3) := by decide +kernel
theorem dX12_readsLetters_21 : decode cX12_readsLetters 21 = .ok (.iconst 1, 1) := by decide +kernel
theorem dX12_readsLetters_22 : decode cX12_readsLetters 22 = .ok (.aload_n 0, 1) := by decide +kernel
theorem dX12_readsLetters_23 : decode cX12_readsLetters 23 = .ok (.invokevirtual 132, 3) := by decide +kernel
theorem dX12_readsLetters_26 : decode cX12_readsLetters 26 = .ok (.bipush 97, 2) := by decide +kernel
theorem dX12_readsLetters_28 : decode cX12_readsLetters 28 = .ok (.isub, 1) := by decide +kernel
theorem dX12_readsLetters_29 : decode cX12_readsLetters 29 = .ok (.ishl, 1) := by decide +kernel
theorem dX12_readsLetters_30 : decode cX12_readsLetters 30 = .ok (.istore_n 2, 1) := by decide +kernel
theorem dX12_readsLetters_31 : decode cX12_readsLetters 31 = .ok (.iload_n 1, 1) := by decide +kernel
theorem dX12_readsLetters_32 : decode cX12_readsLetters 32 = .ok (.aload_n 0, 1) := by decide +kernel
theorem dX12_readsLetters_33 : decode cX12_readsLetters 33 = .ok (.getfield 262, 3) := by decide +kernel
theorem dX12_readsLetters_36 : decode cX12_readsLetters 36 = .ok (.ior, 1) := by decide +kernel
theorem dX12_readsLetters_37 : decode cX12_readsLetters 37 = .ok (.iload_n 2, 1) := by decide +kernel
theorem dX12_readsLetters_38 : decode cX12_readsLetters 38 = .ok (.iand, 1) := by decide +kernel
theorem dX12_readsLetters_39 : decode cX12_readsLetters 39 = .ok (.ifCond .eq 14, 3) := by decide +kernel
theorem dX12_readsLetters_42 : decode cX12_readsLetters 42 = .ok (.aload_n 0, 1) := by decide +kernel
theorem dX12_readsLetters_43 : decode cX12_readsLetters 43 = .ok (.bipush 6, 2) := by decide +kernel
theorem dX12_readsLetters_45 : decode cX12_readsLetters 45 = .ok (.aload_n 0, 1) := by decide +kernel
theorem dX12_readsLetters_46 : decode cX12_readsLetters 46 = .ok (.getfield 126, 3) := by decide +kernel
theorem dX12_readsLetters_49 : decode cX12_readsLetters 49 = .ok (.invokevirtual 139, 3) := by decide +kernel
theorem dX12_readsLetters_52 : decode cX12_readsLetters 52 = .ok (.ireturn, 1) := by decide +kernel
theorem dX12_readsLetters_53 : decode cX12_readsLetters 53 = .ok (.aload_n 0, 1) := by decide +kernel
theorem dX12_readsLetters_54 : decode cX12_readsLetters 54 = .ok (.aload_n 0, 1) := by decide +kernel
theorem dX12_readsLetters_55 : decode cX12_readsLetters 55 = .ok (.getfield 262, 3) := by decide +kernel
theorem dX12_readsLetters_58 : decode cX12_readsLetters 58 = .ok (.iload_n 2, 1) := by decide +kernel
theorem dX12_readsLetters_59 : decode cX12_readsLetters 59 = .ok (.ior, 1) := by decide +kernel
theorem dX12_readsLetters_60 : decode cX12_readsLetters 60 = .ok (.putfield 262, 3) := by decide +kernel
theorem dX12_readsLetters_63 : decode cX12_readsLetters 63 = .ok (.aload_n 0, 1) := by decide +kernel
theorem dX12_readsLetters_64 : decode cX12_readsLetters 64 = .ok (.aload_n 0, 1) := by decide +kernel
theorem dX12_readsLetters_65 : decode cX12_readsLetters 65 = .ok (.getfield 126, 3) := by decide +kernel
theorem dX12_readsLetters_68 : decode cX12_readsLetters 68 = .ok (.iconst 1, 1) := by decide +kernel
theorem dX12_readsLetters_69 : decode cX12_readsLetters 69 = .ok (.iadd, 1) := by decide +kernel
theorem dX12_readsLetters_70 : decode cX12_readsLetters 70 = .ok (.putfield 126, 3) := by decide +kernel
theorem dX12_readsLetters_73 : decode cX12_readsLetters 73 = .ok (.goto (-68), 3) := by decide +kernel
theorem dX12_readsLetters_76 : decode cX12_readsLetters 76 = .ok (.aload_n 0, 1) := by decide +kernel
theorem dX12_readsLetters_77 : decode cX12_readsLetters 77 = .ok (.getfield 262, 3) := by decide +kernel
theorem dX12_readsLetters_80 : decode cX12_readsLetters 80 = .ok (.ifCond .ne 15, 3) := by decide +kernel
theorem dX12_readsLetters_83 : decode cX12_readsLetters 83 = .ok (.aload_n 0, 1) := by decide +kernel
theorem dX12_readsLetters_84 : decode cX12_readsLetters 84 = .ok (.iconst 1, 1) := by decide +kernel
theorem dX12_readsLetters_85 : decode cX12_readsLetters 85 = .ok (.aload_n 0, 1) := by decide +kernel
theorem dX12_readsLetters_86 : decode cX12_readsLetters 86 = .ok (.getfield 126, 3) := by decide +kernel
theorem dX12_readsLetters_89 : decode cX12_readsLetters 89 = .ok (.invokevirtual 139, 3) := by decide +kernel
theorem dX12_readsLetters_92 : decode cX12_readsLetters 92 = .ok (.ifCond .eq 7, 3) := by decide +kernel
theorem dX12_readsLetters_95 : decode cX12_readsLetters 95 = .ok (.iconst 1, 1) := by decide +kernel
theorem dX12_readsLetters_96 : decode cX12_readsLetters 96 = .ok (.goto 4, 3) := by decide +kernel
theorem dX12_readsLetters_99 : decode cX12_readsLetters 99 = .ok (.iconst 0, 1) := by decide +kernel
theorem dX12_readsLetters_100 : decode cX12_readsLetters 100 = .ok (.ireturn, 1) := by decide +kernel
set_option maxRecDepth 20000 in
theorem ggX12_readsWeighing_X12_here : GoodIn wsX12_readsWeighing wsX12_here := goodIn_r _ [11, 2, 12, 13, 26, 27, 28, 29, 30, 31, 32, 33, 34, 35, 36, 37, 38, 39, 40, 41, 42, 43, 44, 45, 46, 47, 48, 49, 50, 51, 52, 53, 54, 55, 56, 57, 58, 59, 60, 61, 62, 63, 64, 65, 66, 67, 68, 69, 70, 71, 72, 73, 74, 75, 76, 77] (by decide +kernel) (by decide +kernel)
set_option maxRecDepth 20000 in
theorem gX12_readsWeighing_X12_here : GoodIn wsX12_readsWeighing (wsV RX12 132 RX12 yX12_here wsX12_here) := goodIn_app (goodIn_of _ (by decide +kernel)) ggX12_readsWeighing_X12_here
set_option maxRecDepth 20000 in
theorem ggX12_readsWeighing_X12_in : GoodIn wsX12_readsWeighing wsX12_in := goodIn_r _ [16] (by decide +kernel) (by decide +kernel)
set_option maxRecDepth 20000 in
theorem gX12_readsWeighing_X12_in : GoodIn wsX12_readsWeighing (va_wsS RX12 105 yX12_in wsX12_in) := goodIn_app (goodIn_of _ (by decide +kernel)) ggX12_readsWeighing_X12_in
set_option maxRecDepth 20000 in
theorem ggX12_readsWeighing_X12_wrongAt : GoodIn wsX12_readsWeighing wsX12_wrongAt := goodIn_r _ [20, 21, 26, 27, 28, 29, 30, 31, 32, 33, 34, 35, 36, 37, 38, 39, 40, 41, 42, 43, 44, 45, 46, 47, 48, 49, 50, 51, 52, 53, 54, 55, 56, 57, 58, 59, 60, 61, 62, 63, 64, 65, 66, 67, 68, 69, 70, 71, 72, 73, 74, 75, 76, 77] (by decide +kernel) (by decide +kernel)
set_option maxRecDepth 20000 in
theorem gX12_readsWeighing_X12_wrongAt : GoodIn wsX12_readsWeighing (wsV RX12 139 RX12 yX12_wrongAt wsX12_wrongAt) := goodIn_app (goodIn_of _ (by decide +kernel)) ggX12_readsWeighing_X12_wrongAt
set_option maxRecDepth 20000 in
theorem ggX12_readsWeighing_X12_readsLetters : GoodIn wsX12_readsWeighing wsX12_readsLetters := goodIn_r _ [25, 3, 2, 7, 8, 9, 10, 11, 12, 13, 14, 15, 16, 17, 18, 19, 20, 21, 26, 27, 28, 29, 30, 31, 32, 33, 34, 35, 36, 37, 38, 39, 40, 41, 42, 43, 44, 45, 46, 47, 48, 49, 50, 51, 52, 53, 54, 55, 56, 57, 58, 59, 60, 61, 62, 63, 64, 65, 66, 67, 68, 69, 70, 71, 72, 73, 74, 75, 76, 77] (by decide +kernel) (by decide +kernel)
set_option maxRecDepth 20000 in
theorem gX12_readsWeighing_X12_readsLetters : GoodIn wsX12_readsWeighing (wsV RX12 268 RX12 yX12_readsLetters wsX12_readsLetters) := goodIn_app (goodIn_of _ (by decide +kernel)) ggX12_readsWeighing_X12_readsLetters
theorem dX12_readsWeighing_0 : decode cX12_readsWeighing 0 = .ok (.aload_n 0, 1) := by decide +kernel
theorem dX12_readsWeighing_1 : decode cX12_readsWeighing 1 = .ok (.invokevirtual 132, 3) := by decide +kernel
theorem dX12_readsWeighing_4 : decode cX12_readsWeighing 4 = .ok (.bipush 97, 2) := by decide +kernel
theorem dX12_readsWeighing_6 : decode cX12_readsWeighing 6 = .ok (.isub, 1) := by decide +kernel
theorem dX12_readsWeighing_7 : decode cX12_readsWeighing 7 = .ok (.iconst 0, 1) := by decide +kernel
theorem dX12_readsWeighing_8 : decode cX12_readsWeighing 8 = .ok (.bipush 15, 2) := by decide +kernel
theorem dX12_readsWeighing_10 : decode cX12_readsWeighing 10 = .ok (.invokestatic 105, 3) := by decide +kernel
theorem dX12_readsWeighing_13 : decode cX12_readsWeighing 13 = .ok (.ifCond .eq 22, 3) := by decide +kernel
theorem dX12_readsWeighing_16 : decode cX12_readsWeighing 16 = .ok (.aload_n 0, 1) := by decide +kernel
theorem dX12_readsWeighing_17 : decode cX12_readsWeighing 17 = .ok (.getfield 265, 3) := by decide +kernel
theorem dX12_readsWeighing_20 : decode cX12_readsWeighing 20 = .ok (.bipush 16, 2) := by decide +kernel
theorem dX12_readsWeighing_22 : decode cX12_readsWeighing 22 = .ok (.if_icmp .ne 13, 3) := by decide +kernel
theorem dX12_readsWeighing_25 : decode cX12_readsWeighing 25 = .ok (.aload_n 0, 1) := by decide +kernel
theorem dX12_readsWeighing_26 : decode cX12_readsWeighing 26 = .ok (.iconst 4, 1) := by decide +kernel
theorem dX12_readsWeighing_27 : decode cX12_readsWeighing 27 = .ok (.aload_n 0, 1) := by decide +kernel
theorem dX12_readsWeighing_28 : decode cX12_readsWeighing 28 = .ok (.getfield 126, 3) := by decide +kernel
theorem dX12_readsWeighing_31 : decode cX12_readsWeighing 31 = .ok (.invokevirtual 139, 3) := by decide +kernel
theorem dX12_readsWeighing_34 : decode cX12_readsWeighing 34 = .ok (.ireturn, 1) := by decide +kernel
theorem dX12_readsWeighing_35 : decode cX12_readsWeighing 35 = .ok (.aload_n 0, 1) := by decide +kernel
theorem dX12_readsWeighing_36 : decode cX12_readsWeighing 36 = .ok (.iconst 0, 1) := by decide +kernel
theorem dX12_readsWeighing_37 : decode cX12_readsWeighing 37 = .ok (.invokevirtual 268, 3) := by decide +kernel
theorem dX12_readsWeighing_40 : decode cX12_readsWeighing 40 = .ok (.ifCond .ne 5, 3) := by decide +kernel
theorem dX12_readsWeighing_43 : decode cX12_readsWeighing 43 = .ok (.iconst 0, 1) := by decide +kernel
theorem dX12_readsWeighing_44 : decode cX12_readsWeighing 44 = .ok (.ireturn, 1) := by decide +kernel
theorem dX12_readsWeighing_45 : decode cX12_readsWeighing 45 = .ok (.aload_n 0, 1) := by decide +kernel
theorem dX12_readsWeighing_46 : decode cX12_readsWeighing 46 = .ok (.getfield 262, 3) := by decide +kernel
theorem dX12_readsWeighing_49 : decode cX12_readsWeighing 49 = .ok (.istore_n 1, 1) := by decide +kernel
theorem dX12_readsWeighing_50 : decode cX12_readsWeighing 50 = .ok (.aload_n 0, 1) := by decide +kernel
theorem dX12_readsWeighing_51 : decode cX12_readsWeighing 51 = .ok (.invokevirtual 132, 3) := by decide +kernel
theorem dX12_readsWeighing_54 : decode cX12_readsWeighing 54 = .ok (.istore_n 2, 1) := by decide +kernel
theorem dX12_readsWeighing_55 : decode cX12_readsWeighing 55 = .ok (.iload_n 2, 1) := by decide +kernel
theorem dX12_readsWeighing_56 : decode cX12_readsWeighing 56 = .ok (.bipush 60, 2) := by decide +kernel
theorem dX12_readsWeighing_58 : decode cX12_readsWeighing 58 = .ok (.if_icmp .eq 25, 3) := by decide +kernel
theorem dX12_readsWeighing_61 : decode cX12_readsWeighing 61 = .ok (.iload_n 2, 1) := by decide +kernel
theorem dX12_readsWeighing_62 : decode cX12_readsWeighing 62 = .ok (.bipush 62, 2) := by decide +kernel
theorem dX12_readsWeighing_64 : decode cX12_readsWeighing 64 = .ok (.if_icmp .eq 19, 3) := by decide +kernel
theorem dX12_readsWeighing_67 : decode cX12_readsWeighing 67 = .ok (.iload_n 2, 1) := by decide +kernel
theorem dX12_readsWeighing_68 : decode cX12_readsWeighing 68 = .ok (.bipush 61, 2) := by decide +kernel
theorem dX12_readsWeighing_70 : decode cX12_readsWeighing 70 = .ok (.if_icmp .eq 13, 3) := by decide +kernel
theorem dX12_readsWeighing_73 : decode cX12_readsWeighing 73 = .ok (.aload_n 0, 1) := by decide +kernel
theorem dX12_readsWeighing_74 : decode cX12_readsWeighing 74 = .ok (.iconst 1, 1) := by decide +kernel
theorem dX12_readsWeighing_75 : decode cX12_readsWeighing 75 = .ok (.aload_n 0, 1) := by decide +kernel
theorem dX12_readsWeighing_76 : decode cX12_readsWeighing 76 = .ok (.getfield 126, 3) := by decide +kernel
theorem dX12_readsWeighing_79 : decode cX12_readsWeighing 79 = .ok (.invokevirtual 139, 3) := by decide +kernel
theorem dX12_readsWeighing_82 : decode cX12_readsWeighing 82 = .ok (.ireturn, 1) := by decide +kernel
theorem dX12_readsWeighing_83 : decode cX12_readsWeighing 83 = .ok (.aload_n 0, 1) := by decide +kernel
theorem dX12_readsWeighing_84 : decode cX12_readsWeighing 84 = .ok (.aload_n 0, 1) := by decide +kernel
theorem dX12_readsWeighing_85 : decode cX12_readsWeighing 85 = .ok (.getfield 126, 3) := by decide +kernel
theorem dX12_readsWeighing_88 : decode cX12_readsWeighing 88 = .ok (.iconst 1, 1) := by decide +kernel
theorem dX12_readsWeighing_89 : decode cX12_readsWeighing 89 = .ok (.iadd, 1) := by decide +kernel
theorem dX12_readsWeighing_90 : decode cX12_readsWeighing 90 = .ok (.putfield 126, 3) := by decide +kernel
theorem dX12_readsWeighing_93 : decode cX12_readsWeighing 93 = .ok (.aload_n 0, 1) := by decide +kernel
theorem dX12_readsWeighing_94 : decode cX12_readsWeighing 94 = .ok (.iload_n 1, 1) := by decide +kernel
theorem dX12_readsWeighing_95 : decode cX12_readsWeighing 95 = .ok (.invokevirtual 268, 3) := by decide +kernel
theorem dX12_readsWeighing_98 : decode cX12_readsWeighing 98 = .ok (.ifCond .ne 5, 3) := by decide +kernel
theorem dX12_readsWeighing_101 : decode cX12_readsWeighing 101 = .ok (.iconst 0, 1) := by decide +kernel
theorem dX12_readsWeighing_102 : decode cX12_readsWeighing 102 = .ok (.ireturn, 1) := by decide +kernel
theorem dX12_readsWeighing_103 : decode cX12_readsWeighing 103 = .ok (.aload_n 0, 1) := by decide +kernel
theorem dX12_readsWeighing_104 : decode cX12_readsWeighing 104 = .ok (.getfield 71, 3) := by decide +kernel
theorem dX12_readsWeighing_107 : decode cX12_readsWeighing 107 = .ok (.aload_n 0, 1) := by decide +kernel
theorem dX12_readsWeighing_108 : decode cX12_readsWeighing 108 = .ok (.getfield 265, 3) := by decide +kernel
theorem dX12_readsWeighing_111 : decode cX12_readsWeighing 111 = .ok (.iload_n 1, 1) := by decide +kernel
theorem dX12_readsWeighing_112 : decode cX12_readsWeighing 112 = .ok (.iastore, 1) := by decide +kernel
theorem dX12_readsWeighing_113 : decode cX12_readsWeighing 113 = .ok (.aload_n 0, 1) := by decide +kernel
theorem dX12_readsWeighing_114 : decode cX12_readsWeighing 114 = .ok (.getfield 74, 3) := by decide +kernel
theorem dX12_readsWeighing_117 : decode cX12_readsWeighing 117 = .ok (.aload_n 0, 1) := by decide +kernel
theorem dX12_readsWeighing_118 : decode cX12_readsWeighing 118 = .ok (.getfield 265, 3) := by decide +kernel
theorem dX12_readsWeighing_121 : decode cX12_readsWeighing 121 = .ok (.aload_n 0, 1) := by decide +kernel
theorem dX12_readsWeighing_122 : decode cX12_readsWeighing 122 = .ok (.getfield 262, 3) := by decide +kernel
theorem dX12_readsWeighing_125 : decode cX12_readsWeighing 125 = .ok (.iastore, 1) := by decide +kernel
theorem dX12_readsWeighing_126 : decode cX12_readsWeighing 126 = .ok (.aload_n 0, 1) := by decide +kernel
theorem dX12_readsWeighing_127 : decode cX12_readsWeighing 127 = .ok (.getfield 77, 3) := by decide +kernel
theorem dX12_readsWeighing_130 : decode cX12_readsWeighing 130 = .ok (.aload_n 0, 1) := by decide +kernel
theorem dX12_readsWeighing_131 : decode cX12_readsWeighing 131 = .ok (.getfield 265, 3) := by decide +kernel
theorem dX12_readsWeighing_134 : decode cX12_readsWeighing 134 = .ok (.iload_n 2, 1) := by decide +kernel
theorem dX12_readsWeighing_135 : decode cX12_readsWeighing 135 = .ok (.iastore, 1) := by decide +kernel
theorem dX12_readsWeighing_136 : decode cX12_readsWeighing 136 = .ok (.aload_n 0, 1) := by decide +kernel
theorem dX12_readsWeighing_137 : decode cX12_readsWeighing 137 = .ok (.aload_n 0, 1) := by decide +kernel
theorem dX12_readsWeighing_138 : decode cX12_readsWeighing 138 = .ok (.getfield 265, 3) := by decide +kernel
theorem dX12_readsWeighing_141 : decode cX12_readsWeighing 141 = .ok (.iconst 1, 1) := by decide +kernel
theorem dX12_readsWeighing_142 : decode cX12_readsWeighing 142 = .ok (.iadd, 1) := by decide +kernel
theorem dX12_readsWeighing_143 : decode cX12_readsWeighing 143 = .ok (.putfield 265, 3) := by decide +kernel
theorem dX12_readsWeighing_146 : decode cX12_readsWeighing 146 = .ok (.iconst 1, 1) := by decide +kernel
theorem dX12_readsWeighing_147 : decode cX12_readsWeighing 147 = .ok (.ireturn, 1) := by decide +kernel
set_option maxRecDepth 20000 in
theorem ggX12_weighings_X12_in : GoodIn wsX12_weighings wsX12_in := goodIn_r _ [16] (by decide +kernel) (by decide +kernel)
set_option maxRecDepth 20000 in
theorem gX12_weighings_X12_in : GoodIn wsX12_weighings (va_wsS RX12 105 yX12_in wsX12_in) := goodIn_app (goodIn_of _ (by decide +kernel)) ggX12_weighings_X12_in
set_option maxRecDepth 20000 in
theorem ggX12_weighings_X12_beginsText : GoodIn wsX12_weighings wsX12_beginsText := goodIn_r _ [20, 3, 4, 21, 22, 45, 46, 47, 48, 49, 50, 51, 52, 53, 54, 55, 56, 57, 58, 59, 60, 61, 62, 63, 64, 65, 66, 67, 68, 69, 70, 71, 72, 73, 74, 75, 76, 77, 78, 79, 80, 81, 82, 83, 84, 85, 86, 87, 88, 89, 90, 91, 92, 93, 94, 95, 96] (by decide +kernel) (by decide +kernel)
set_option maxRecDepth 20000 in
theorem gX12_weighings_X12_beginsText : GoodIn wsX12_weighings (wsV RX12 211 RX12 yX12_beginsText wsX12_beginsText) := goodIn_app (goodIn_of _ (by decide +kernel)) ggX12_weighings_X12_beginsText
set_option maxRecDepth 20000 in
theorem ggX12_weighings_X12_readsWeighing : GoodIn wsX12_weighings wsX12_readsWeighing := goodIn_r _ [26, 2, 3, 27, 8, 10, 12, 28, 29, 30, 15, 31, 4, 32, 13, 14, 16, 33, 34, 35, 36, 5, 37, 38, 39, 40, 45, 46, 47, 48, 49, 50, 51, 52, 53, 54, 55, 56, 57, 58, 59, 60, 61, 62, 63, 64, 65, 66, 67, 68, 69, 70, 71, 72, 73, 74, 75, 76, 77, 78, 79, 80, 81, 82, 83, 84, 85, 86, 87, 88, 89, 90, 91, 92, 93, 94, 95, 96] (by decide +kernel) (by decide +kernel)
set_option maxRecDepth 20000 in
theorem gX12_weighings_X12_readsWeighing : GoodIn wsX12_weighings (wsV RX12 271 RX12 yX12_readsWeighing wsX12_readsWeighing) := goodIn_app (goodIn_of _ (by decide +kernel)) ggX12_weighings_X12_readsWeighing
set_option maxRecDepth 20000 in
theorem ggX12_weighings_X12_takes : GoodIn wsX12_weighings wsX12_takes := goodIn_r _ [44, 3, 28, 29, 30, 15, 31, 4, 32, 33, 34, 35, 36, 5, 45, 46, 47, 48, 49, 50, 51, 52, 53, 54, 55, 56, 57, 58, 59, 60, 61, 62, 63, 64, 65, 66, 67, 68, 69, 70, 71, 72, 73, 74, 75, 76, 77, 78, 79, 80, 81, 82, 83, 84, 85, 86, 87, 88, 89, 90, 91, 92, 93, 94, 95, 96] (by decide +kernel) (by decide +kernel)
set_option maxRecDepth 20000 in
theorem gX12_weighings_X12_takes : GoodIn wsX12_weighings (wsV RX12 217 RX12 yX12_takes wsX12_takes) := goodIn_app (goodIn_of _ (by decide +kernel)) ggX12_weighings_X12_takes
theorem dX12_weighings_0 : decode cX12_weighings 0 = .ok (.iload_n 1, 1) := by decide +kernel
theorem dX12_weighings_1 : decode cX12_weighings 1 = .ok (.iconst 1, 1) := by decide +kernel
theorem dX12_weighings_2 : decode cX12_weighings 2 = .ok (.bipush 120, 2) := by decide +kernel
theorem dX12_weighings_4 : decode cX12_weighings 4 = .ok (.invokestatic 105, 3) := by decide +kernel
theorem dX12_weighings_7 : decode cX12_weighings 7 = .ok (.ifCond .eq 11, 3) := by decide +kernel
theorem dX12_weighings_10 : decode cX12_weighings 10 = .ok (.iload_n 1, 1) := by decide +kernel
theorem dX12_weighings_11 : decode cX12_weighings 11 = .ok (.aload_n 0, 1) := by decide +kernel
theorem dX12_weighings_12 : decode cX12_weighings 12 = .ok (.getfield 119, 3) := by decide +kernel
theorem dX12_weighings_15 : decode cX12_weighings 15 = .ok (.if_icmp .le 5, 3) := by decide +kernel
theorem dX12_weighings_18 : decode cX12_weighings 18 = .ok (.iconst (-1), 1) := by decide +kernel
theorem dX12_weighings_19 : decode cX12_weighings 19 = .ok (.ireturn, 1) := by decide +kernel
theorem dX12_weighings_20 : decode cX12_weighings 20 = .ok (.aload_n 0, 1) := by decide +kernel
theorem dX12_weighings_21 : decode cX12_weighings 21 = .ok (.iload_n 1, 1) := by decide +kernel
theorem dX12_weighings_22 : decode cX12_weighings 22 = .ok (.invokevirtual 211, 3) := by decide +kernel
theorem dX12_weighings_25 : decode cX12_weighings 25 = .ok (.aload_n 0, 1) := by decide +kernel
theorem dX12_weighings_26 : decode cX12_weighings 26 = .ok (.iconst 0, 1) := by decide +kernel
theorem dX12_weighings_27 : decode cX12_weighings 27 = .ok (.putfield 265, 3) := by decide +kernel
theorem dX12_weighings_30 : decode cX12_weighings 30 = .ok (.aload_n 0, 1) := by decide +kernel
theorem dX12_weighings_31 : decode cX12_weighings 31 = .ok (.invokevirtual 271, 3) := by decide +kernel
theorem dX12_weighings_34 : decode cX12_weighings 34 = .ok (.istore_n 2, 1) := by decide +kernel
theorem dX12_weighings_35 : decode cX12_weighings 35 = .ok (.iload_n 2, 1) := by decide +kernel
theorem dX12_weighings_36 : decode cX12_weighings 36 = .ok (.ifCond .eq 39, 3) := by decide +kernel
theorem dX12_weighings_39 : decode cX12_weighings 39 = .ok (.aload_n 0, 1) := by decide +kernel
theorem dX12_weighings_40 : decode cX12_weighings 40 = .ok (.getfield 126, 3) := by decide +kernel
theorem dX12_weighings_43 : decode cX12_weighings 43 = .ok (.aload_n 0, 1) := by decide +kernel
theorem dX12_weighings_44 : decode cX12_weighings 44 = .ok (.getfield 129, 3) := by decide +kernel
theorem dX12_weighings_47 : decode cX12_weighings 47 = .ok (.if_icmp .ge 28, 3) := by decide +kernel
theorem dX12_weighings_50 : decode cX12_weighings 50 = .ok (.aload_n 0, 1) := by decide +kernel
theorem dX12_weighings_51 : decode cX12_weighings 51 = .ok (.bipush 59, 2) := by decide +kernel
theorem dX12_weighings_53 : decode cX12_weighings 53 = .ok (.invokevirtual 217, 3) := by decide +kernel
theorem dX12_weighings_56 : decode cX12_weighings 56 = .ok (.ifCond .eq 14, 3) := by decide +kernel
theorem dX12_weighings_59 : decode cX12_weighings 59 = .ok (.aload_n 0, 1) := by decide +kernel
theorem dX12_weighings_60 : decode cX12_weighings 60 = .ok (.invokevirtual 271, 3) := by decide +kernel
theorem dX12_weighings_63 : decode cX12_weighings 63 = .ok (.ifCond .eq 7, 3) := by decide +kernel
theorem dX12_weighings_66 : decode cX12_weighings 66 = .ok (.iconst 1, 1) := by decide +kernel
theorem dX12_weighings_67 : decode cX12_weighings 67 = .ok (.goto 4, 3) := by decide +kernel
theorem dX12_weighings_70 : decode cX12_weighings 70 = .ok (.iconst 0, 1) := by decide +kernel
theorem dX12_weighings_71 : decode cX12_weighings 71 = .ok (.istore_n 2, 1) := by decide +kernel
theorem dX12_weighings_72 : decode cX12_weighings 72 = .ok (.goto (-37), 3) := by decide +kernel
theorem dX12_weighings_75 : decode cX12_weighings 75 = .ok (.aload_n 0, 1) := by decide +kernel
theorem dX12_weighings_76 : decode cX12_weighings 76 = .ok (.iconst 0, 1) := by decide +kernel
theorem dX12_weighings_77 : decode cX12_weighings 77 = .ok (.putfield 119, 3) := by decide +kernel
theorem dX12_weighings_80 : decode cX12_weighings 80 = .ok (.iload_n 2, 1) := by decide +kernel
theorem dX12_weighings_81 : decode cX12_weighings 81 = .ok (.ifCond .ne 8, 3) := by decide +kernel
theorem dX12_weighings_84 : decode cX12_weighings 84 = .ok (.aload_n 0, 1) := by decide +kernel
theorem dX12_weighings_85 : decode cX12_weighings 85 = .ok (.getfield 136, 3) := by decide +kernel
theorem dX12_weighings_88 : decode cX12_weighings 88 = .ok (.ireturn, 1) := by decide +kernel
theorem dX12_weighings_89 : decode cX12_weighings 89 = .ok (.aload_n 0, 1) := by decide +kernel
theorem dX12_weighings_90 : decode cX12_weighings 90 = .ok (.aload_n 0, 1) := by decide +kernel
theorem dX12_weighings_91 : decode cX12_weighings 91 = .ok (.getfield 265, 3) := by decide +kernel
theorem dX12_weighings_94 : decode cX12_weighings 94 = .ok (.putfield 274, 3) := by decide +kernel
theorem dX12_weighings_97 : decode cX12_weighings 97 = .ok (.iconst 0, 1) := by decide +kernel
theorem dX12_weighings_98 : decode cX12_weighings 98 = .ok (.istore_n 3, 1) := by decide +kernel
theorem dX12_weighings_99 : decode cX12_weighings 99 = .ok (.iload_n 3, 1) := by decide +kernel
theorem dX12_weighings_100 : decode cX12_weighings 100 = .ok (.aload_n 0, 1) := by decide +kernel
theorem dX12_weighings_101 : decode cX12_weighings 101 = .ok (.getfield 265, 3) := by decide +kernel
theorem dX12_weighings_104 : decode cX12_weighings 104 = .ok (.if_icmp .ge 45, 3) := by decide +kernel
theorem dX12_weighings_107 : decode cX12_weighings 107 = .ok (.aload_n 0, 1) := by decide +kernel
theorem dX12_weighings_108 : decode cX12_weighings 108 = .ok (.getfield 62, 3) := by decide +kernel
theorem dX12_weighings_111 : decode cX12_weighings 111 = .ok (.iload_n 3, 1) := by decide +kernel
theorem dX12_weighings_112 : decode cX12_weighings 112 = .ok (.aload_n 0, 1) := by decide +kernel
theorem dX12_weighings_113 : decode cX12_weighings 113 = .ok (.getfield 71, 3) := by decide +kernel
theorem dX12_weighings_116 : decode cX12_weighings 116 = .ok (.iload_n 3, 1) := by decide +kernel
theorem dX12_weighings_117 : decode cX12_weighings 117 = .ok (.iaload, 1) := by decide +kernel
theorem dX12_weighings_118 : decode cX12_weighings 118 = .ok (.iastore, 1) := by decide +kernel
theorem dX12_weighings_119 : decode cX12_weighings 119 = .ok (.aload_n 0, 1) := by decide +kernel
theorem dX12_weighings_120 : decode cX12_weighings 120 = .ok (.getfield 65, 3) := by decide +kernel
theorem dX12_weighings_123 : decode cX12_weighings 123 = .ok (.iload_n 3, 1) := by decide +kernel
theorem dX12_weighings_124 : decode cX12_weighings 124 = .ok (.aload_n 0, 1) := by decide +kernel
theorem dX12_weighings_125 : decode cX12_weighings 125 = .ok (.getfield 74, 3) := by decide +kernel
theorem dX12_weighings_128 : decode cX12_weighings 128 = .ok (.iload_n 3, 1) := by decide +kernel
theorem dX12_weighings_129 : decode cX12_weighings 129 = .ok (.iaload, 1) := by decide +kernel
theorem dX12_weighings_130 : decode cX12_weighings 130 = .ok (.iastore, 1) := by decide +kernel
theorem dX12_weighings_131 : decode cX12_weighings 131 = .ok (.aload_n 0, 1) := by decide +kernel
theorem dX12_weighings_132 : decode cX12_weighings 132 = .ok (.getfield 68, 3) := by decide +kernel
theorem dX12_weighings_135 : decode cX12_weighings 135 = .ok (.iload_n 3, 1) := by decide +kernel
theorem dX12_weighings_136 : decode cX12_weighings 136 = .ok (.aload_n 0, 1) := by decide +kernel
theorem dX12_weighings_137 : decode cX12_weighings 137 = .ok (.getfield 77, 3) := by decide +kernel
theorem dX12_weighings_140 : decode cX12_weighings 140 = .ok (.iload_n 3, 1) := by decide +kernel
theorem dX12_weighings_141 : decode cX12_weighings 141 = .ok (.iaload, 1) := by decide +kernel
theorem dX12_weighings_142 : decode cX12_weighings 142 = .ok (.iastore, 1) := by decide +kernel
theorem dX12_weighings_143 : decode cX12_weighings 143 = .ok (.iinc 3 1, 3) := by decide +kernel
theorem dX12_weighings_146 : decode cX12_weighings 146 = .ok (.goto (-47), 3) := by decide +kernel
theorem dX12_weighings_149 : decode cX12_weighings 149 = .ok (.aload_n 0, 1) := by decide +kernel
theorem dX12_weighings_150 : decode cX12_weighings 150 = .ok (.getfield 265, 3) := by decide +kernel
theorem dX12_weighings_153 : decode cX12_weighings 153 = .ok (.ireturn, 1) := by decide +kernel
set_option maxRecDepth 20000 in
theorem ggX12_goesOver_X12_min : GoodIn wsX12_goesOver wsX12_min := goodIn_r _ [9] (by decide +kernel) (by decide +kernel)
set_option maxRecDepth 20000 in
theorem gX12_goesOver_X12_min : GoodIn wsX12_goesOver (va_wsS RX12 249 yX12_min wsX12_min) := goodIn_app (goodIn_of _ (by decide +kernel)) ggX12_goesOver_X12_min
theorem dX12_goesOver_0 : decode cX12_goesOver 0 = .ok (.aload_n 0, 1) := by decide +kernel
theorem dX12_goesOver_1 : decode cX12_goesOver 1 = .ok (.getfield 7, 3) := by decide +kernel
theorem dX12_goesOver_4 : decode cX12_goesOver 4 = .ok (.bipush 16, 2) := by decide +kernel
theorem dX12_goesOver_6 : decode cX12_goesOver 6 = .ok (.iload_n 1, 1) := by decide +kernel
theorem dX12_goesOver_7 : decode cX12_goesOver 7 = .ok (.iadd, 1) := by decide +kernel
theorem dX12_goesOver_8 : decode cX12_goesOver 8 = .ok (.iaload, 1) := by decide +kernel
theorem dX12_goesOver_9 : decode cX12_goesOver 9 = .ok (.istore_n 3, 1) := by decide +kernel
theorem dX12_goesOver_10 : decode cX12_goesOver 10 = .ok (.iload_n 3, 1) := by decide +kernel
theorem dX12_goesOver_11 : decode cX12_goesOver 11 = .ok (.iload_n 2, 1) := by decide +kernel
theorem dX12_goesOver_12 : decode cX12_goesOver 12 = .ok (.isub, 1) := by decide +kernel
theorem dX12_goesOver_13 : decode cX12_goesOver 13 = .ok (.aload_n 0, 1) := by decide +kernel
theorem dX12_goesOver_14 : decode cX12_goesOver 14 = .ok (.getfield 116, 3) := by decide +kernel
theorem dX12_goesOver_17 : decode cX12_goesOver 17 = .ok (.if_icmp .le 40, 3) := by decide +kernel
theorem dX12_goesOver_20 : decode cX12_goesOver 20 = .ok (.aload_n 0, 1) := by decide +kernel
theorem dX12_goesOver_21 : decode cX12_goesOver 21 = .ok (.getfield 7, 3) := by decide +kernel
theorem dX12_goesOver_24 : decode cX12_goesOver 24 = .ok (.bipush 64, 2) := by decide +kernel
theorem dX12_goesOver_26 : decode cX12_goesOver 26 = .ok (.iload_n 1, 1) := by decide +kernel
theorem dX12_goesOver_27 : decode cX12_goesOver 27 = .ok (.iadd, 1) := by decide +kernel
theorem dX12_goesOver_28 : decode cX12_goesOver 28 = .ok (.sipush 999, 3) := by decide +kernel
theorem dX12_goesOver_31 : decode cX12_goesOver 31 = .ok (.aload_n 0, 1) := by decide +kernel
theorem dX12_goesOver_32 : decode cX12_goesOver 32 = .ok (.getfield 7, 3) := by decide +kernel
theorem dX12_goesOver_35 : decode cX12_goesOver 35 = .ok (.bipush 64, 2) := by decide +kernel
theorem dX12_goesOver_37 : decode cX12_goesOver 37 = .ok (.iload_n 1, 1) := by decide +kernel
theorem dX12_goesOver_38 : decode cX12_goesOver 38 = .ok (.iadd, 1) := by decide +kernel
theorem dX12_goesOver_39 : decode cX12_goesOver 39 = .ok (.iaload, 1) := by decide +kernel
theorem dX12_goesOver_40 : decode cX12_goesOver 40 = .ok (.iconst 1, 1) := by decide +kernel
theorem dX12_goesOver_41 : decode cX12_goesOver 41 = .ok (.iadd, 1) := by decide +kernel
theorem dX12_goesOver_42 : decode cX12_goesOver 42 = .ok (.invokestatic 249, 3) := by decide +kernel
theorem dX12_goesOver_45 : decode cX12_goesOver 45 = .ok (.iastore, 1) := by decide +kernel
theorem dX12_goesOver_46 : decode cX12_goesOver 46 = .ok (.aload_n 0, 1) := by decide +kernel
theorem dX12_goesOver_47 : decode cX12_goesOver 47 = .ok (.aload_n 0, 1) := by decide +kernel
theorem dX12_goesOver_48 : decode cX12_goesOver 48 = .ok (.getfield 277, 3) := by decide +kernel
theorem dX12_goesOver_51 : decode cX12_goesOver 51 = .ok (.iconst 1, 1) := by decide +kernel
theorem dX12_goesOver_52 : decode cX12_goesOver 52 = .ok (.iadd, 1) := by decide +kernel
theorem dX12_goesOver_53 : decode cX12_goesOver 53 = .ok (.putfield 277, 3) := by decide +kernel
theorem dX12_goesOver_56 : decode cX12_goesOver 56 = .ok (.return_, 1) := by decide +kernel
theorem dX12_goesOver_57 : decode cX12_goesOver 57 = .ok (.iload_n 2, 1) := by decide +kernel
theorem dX12_goesOver_58 : decode cX12_goesOver 58 = .ok (.iload_n 3, 1) := by decide +kernel
theorem dX12_goesOver_59 : decode cX12_goesOver 59 = .ok (.isub, 1) := by decide +kernel
theorem dX12_goesOver_60 : decode cX12_goesOver 60 = .ok (.aload_n 0, 1) := by decide +kernel
theorem dX12_goesOver_61 : decode cX12_goesOver 61 = .ok (.getfield 116, 3) := by decide +kernel
theorem dX12_goesOver_64 : decode cX12_goesOver 64 = .ok (.if_icmp .le 41, 3) := by decide +kernel
theorem dX12_goesOver_67 : decode cX12_goesOver 67 = .ok (.aload_n 0, 1) := by decide +kernel
theorem dX12_goesOver_68 : decode cX12_goesOver 68 = .ok (.getfield 7, 3) := by decide +kernel
theorem dX12_goesOver_71 : decode cX12_goesOver 71 = .ok (.bipush 80, 2) := by decide +kernel
theorem dX12_goesOver_73 : decode cX12_goesOver 73 = .ok (.iload_n 1, 1) := by decide +kernel
theorem dX12_goesOver_74 : decode cX12_goesOver 74 = .ok (.iadd, 1) := by decide +kernel
theorem dX12_goesOver_75 : decode cX12_goesOver 75 = .ok (.sipush 9999, 3) := by decide +kernel
theorem dX12_goesOver_78 : decode cX12_goesOver 78 = .ok (.aload_n 0, 1) := by decide +kernel
theorem dX12_goesOver_79 : decode cX12_goesOver 79 = .ok (.getfield 7, 3) := by decide +kernel
theorem dX12_goesOver_82 : decode cX12_goesOver 82 = .ok (.bipush 80, 2) := by decide +kernel
theorem dX12_goesOver_84 : decode cX12_goesOver 84 = .ok (.iload_n 1, 1) := by decide +kernel
theorem dX12_goesOver_85 : decode cX12_goesOver 85 = .ok (.iadd, 1) := by decide +kernel
theorem dX12_goesOver_86 : decode cX12_goesOver 86 = .ok (.iaload, 1) := by decide +kernel
theorem dX12_goesOver_87 : decode cX12_goesOver 87 = .ok (.iload_n 2, 1) := by decide +kernel
theorem dX12_goesOver_88 : decode cX12_goesOver 88 = .ok (.iadd, 1) := by decide +kernel
theorem dX12_goesOver_89 : decode cX12_goesOver 89 = .ok (.iload_n 3, 1) := by decide +kernel
theorem dX12_goesOver_90 : decode cX12_goesOver 90 = .ok (.isub, 1) := by decide +kernel
theorem dX12_goesOver_91 : decode cX12_goesOver 91 = .ok (.invokestatic 249, 3) := by decide +kernel
theorem dX12_goesOver_94 : decode cX12_goesOver 94 = .ok (.iastore, 1) := by decide +kernel
theorem dX12_goesOver_95 : decode cX12_goesOver 95 = .ok (.aload_n 0, 1) := by decide +kernel
theorem dX12_goesOver_96 : decode cX12_goesOver 96 = .ok (.aload_n 0, 1) := by decide +kernel
theorem dX12_goesOver_97 : decode cX12_goesOver 97 = .ok (.getfield 280, 3) := by decide +kernel
theorem dX12_goesOver_100 : decode cX12_goesOver 100 = .ok (.iconst 1, 1) := by decide +kernel
theorem dX12_goesOver_101 : decode cX12_goesOver 101 = .ok (.iadd, 1) := by decide +kernel
theorem dX12_goesOver_102 : decode cX12_goesOver 102 = .ok (.putfield 280, 3) := by decide +kernel
theorem dX12_goesOver_105 : decode cX12_goesOver 105 = .ok (.aload_n 0, 1) := by decide +kernel
theorem dX12_goesOver_106 : decode cX12_goesOver 106 = .ok (.getfield 7, 3) := by decide +kernel
theorem dX12_goesOver_109 : decode cX12_goesOver 109 = .ok (.bipush 48, 2) := by decide +kernel
theorem dX12_goesOver_111 : decode cX12_goesOver 111 = .ok (.iload_n 1, 1) := by decide +kernel
theorem dX12_goesOver_112 : decode cX12_goesOver 112 = .ok (.iadd, 1) := by decide +kernel
theorem dX12_goesOver_113 : decode cX12_goesOver 113 = .ok (.iconst 1, 1) := by decide +kernel
theorem dX12_goesOver_114 : decode cX12_goesOver 114 = .ok (.iastore, 1) := by decide +kernel
theorem dX12_goesOver_115 : decode cX12_goesOver 115 = .ok (.aload_n 0, 1) := by decide +kernel
theorem dX12_goesOver_116 : decode cX12_goesOver 116 = .ok (.aload_n 0, 1) := by decide +kernel
theorem dX12_goesOver_117 : decode cX12_goesOver 117 = .ok (.getfield 283, 3) := by decide +kernel
theorem dX12_goesOver_120 : decode cX12_goesOver 120 = .ok (.iconst 1, 1) := by decide +kernel
theorem dX12_goesOver_121 : decode cX12_goesOver 121 = .ok (.iadd, 1) := by decide +kernel
theorem dX12_goesOver_122 : decode cX12_goesOver 122 = .ok (.putfield 283, 3) := by decide +kernel
theorem dX12_goesOver_125 : decode cX12_goesOver 125 = .ok (.return_, 1) := by decide +kernel
set_option maxRecDepth 20000 in
theorem ggX12_turnOf_X12_feels : GoodIn wsX12_turnOf wsX12_feels := goodIn_r _ [9, 10, 1, 11, 12, 13, 8, 14, 15, 16, 17, 18, 19, 20, 21, 22, 23, 24, 25, 26, 27, 28, 29, 30, 31, 32, 33, 34, 35, 36, 74, 75, 76, 77, 78, 79, 80, 81, 82, 83, 84, 85, 86, 87, 88, 89, 90, 91, 92, 93, 94, 95, 96, 97, 98, 99, 100, 101, 102, 103, 104, 105, 106, 107, 108, 109, 110, 111, 112, 113, 114, 115, 116, 117, 118, 119, 120, 121, 122, 123, 124, 125] (by decide +kernel) (by decide +kernel)
set_option maxRecDepth 20000 in
theorem gX12_turnOf_X12_feels : GoodIn wsX12_turnOf (wsV RX12 286 RX12 yX12_feels wsX12_feels) := goodIn_app (goodIn_of _ (by decide +kernel)) ggX12_turnOf_X12_feels
set_option maxRecDepth 20000 in
theorem ggX12_turnOf_X12_byLaw : GoodIn wsX12_turnOf wsX12_byLaw := goodIn_r _ [40, 41, 42, 43, 44, 45, 46, 47, 48, 8, 49, 50, 51, 52, 10, 53, 54, 55, 74, 75, 76, 77, 78, 79, 80, 81, 82, 83, 84, 85, 86, 87, 88, 89, 90, 91, 92, 93, 94, 95, 96, 97, 98, 99, 100, 101, 102, 103, 104, 105, 106, 107, 108, 109, 110, 111, 112, 113, 114, 115, 116, 117, 118, 119, 120, 121, 122, 123, 124, 125] (by decide +kernel) (by decide +kernel)
set_option maxRecDepth 20000 in
theorem gX12_turnOf_X12_byLaw : GoodIn wsX12_turnOf (wsV RX12 289 RX12 yX12_byLaw wsX12_byLaw) := goodIn_app (goodIn_of _ (by decide +kernel)) ggX12_turnOf_X12_byLaw
set_option maxRecDepth 20000 in
theorem ggX12_turnOf_X12_min : GoodIn wsX12_turnOf wsX12_min := goodIn_r _ [58] (by decide +kernel) (by decide +kernel)
set_option maxRecDepth 20000 in
theorem gX12_turnOf_X12_min : GoodIn wsX12_turnOf (va_wsS RX12 249 yX12_min wsX12_min) := goodIn_app (goodIn_of _ (by decide +kernel)) ggX12_turnOf_X12_min
set_option maxRecDepth 20000 in
theorem ggX12_turnOf_X12_max : GoodIn wsX12_turnOf wsX12_max := goodIn_r _ [61] (by decide +kernel) (by decide +kernel)
set_option maxRecDepth 20000 in
theorem gX12_turnOf_X12_max : GoodIn wsX12_turnOf (va_wsS RX12 252 yX12_max wsX12_max) := goodIn_app (goodIn_of _ (by decide +kernel)) ggX12_turnOf_X12_max
set_option maxRecDepth 20000 in
theorem ggX12_turnOf_X12_holdsAny : GoodIn wsX12_turnOf wsX12_holdsAny := goodIn_r _ [65, 41, 42, 43, 44, 46, 47, 48, 8, 49, 50, 51, 52, 10, 53, 54, 55, 74, 75, 76, 77, 78, 79, 80, 81, 82, 83, 84, 85, 86, 87, 88, 89, 90, 91, 92, 93, 94, 95, 96, 97, 98, 99, 100, 101, 102, 103, 104, 105, 106, 107, 108, 109, 110, 111, 112, 113, 114, 115, 116, 117, 118, 119, 120, 121, 122, 123, 124, 125] (by decide +kernel) (by decide +kernel)
set_option maxRecDepth 20000 in
theorem gX12_turnOf_X12_holdsAny : GoodIn wsX12_turnOf (wsV RX12 292 RX12 yX12_holdsAny wsX12_holdsAny) := goodIn_app (goodIn_of _ (by decide +kernel)) ggX12_turnOf_X12_holdsAny
set_option maxRecDepth 20000 in
theorem ggX12_turnOf_X12_isHere : GoodIn wsX12_turnOf wsX12_isHere := goodIn_r _ [33, 1, 19, 20, 21, 8, 22, 23, 24, 25, 74, 75, 76, 77, 78, 79, 80, 81, 82, 83, 84, 85, 86, 87, 88, 89, 90, 91, 92, 93, 94, 95, 96, 97, 98, 99, 100, 101, 102, 103, 104, 105, 106, 107, 108, 109, 110, 111, 112, 113, 114, 115, 116, 117, 118, 119, 120, 121, 122, 123, 124, 125] (by decide +kernel) (by decide +kernel)
set_option maxRecDepth 20000 in
theorem gX12_turnOf_X12_isHere : GoodIn wsX12_turnOf (wsV RX12 113 RX12 yX12_isHere wsX12_isHere) := goodIn_app (goodIn_of _ (by decide +kernel)) ggX12_turnOf_X12_isHere
set_option maxRecDepth 20000 in
theorem ggX12_turnOf_X12_goesOver : GoodIn wsX12_turnOf wsX12_goesOver := goodIn_r _ [69, 1, 70, 71, 72, 73, 56, 57, 8, 58, 74, 75, 76, 77, 78, 79, 80, 81, 82, 83, 84, 85, 86, 87, 88, 89, 90, 91, 92, 93, 94, 95, 96, 97, 98, 99, 100, 101, 102, 103, 104, 105, 106, 107, 108, 109, 110, 111, 112, 113, 114, 115, 116, 117, 118, 119, 120, 121, 122, 123, 124, 125] (by decide +kernel) (by decide +kernel)
set_option maxRecDepth 20000 in
theorem gX12_turnOf_X12_goesOver : GoodIn wsX12_turnOf (wsV RX12 299 RX12 yX12_goesOver wsX12_goesOver) := goodIn_app (goodIn_of _ (by decide +kernel)) ggX12_turnOf_X12_goesOver
theorem dX12_turnOf_0 : decode cX12_turnOf 0 = .ok (.aload_n 0, 1) := by decide +kernel
theorem dX12_turnOf_1 : decode cX12_turnOf 1 = .ok (.iload_n 1, 1) := by decide +kernel
theorem dX12_turnOf_2 : decode cX12_turnOf 2 = .ok (.invokevirtual 286, 3) := by decide +kernel
theorem dX12_turnOf_5 : decode cX12_turnOf 5 = .ok (.aload_n 0, 1) := by decide +kernel
theorem dX12_turnOf_6 : decode cX12_turnOf 6 = .ok (.bipush 119, 2) := by decide +kernel
theorem dX12_turnOf_8 : decode cX12_turnOf 8 = .ok (.bipush 99, 2) := by decide +kernel
theorem dX12_turnOf_10 : decode cX12_turnOf 10 = .ok (.iconst 0, 1) := by decide +kernel
theorem dX12_turnOf_11 : decode cX12_turnOf 11 = .ok (.invokevirtual 289, 3) := by decide +kernel
theorem dX12_turnOf_14 : decode cX12_turnOf 14 = .ok (.istore_n 2, 1) := by decide +kernel
theorem dX12_turnOf_15 : decode cX12_turnOf 15 = .ok (.aload_n 0, 1) := by decide +kernel
theorem dX12_turnOf_16 : decode cX12_turnOf 16 = .ok (.bipush 108, 2) := by decide +kernel
theorem dX12_turnOf_18 : decode cX12_turnOf 18 = .ok (.bipush 99, 2) := by decide +kernel
theorem dX12_turnOf_20 : decode cX12_turnOf 20 = .ok (.iconst 0, 1) := by decide +kernel
theorem dX12_turnOf_21 : decode cX12_turnOf 21 = .ok (.invokevirtual 289, 3) := by decide +kernel
theorem dX12_turnOf_24 : decode cX12_turnOf 24 = .ok (.istore_n 3, 1) := by decide +kernel
theorem dX12_turnOf_25 : decode cX12_turnOf 25 = .ok (.aload_n 0, 1) := by decide +kernel
theorem dX12_turnOf_26 : decode cX12_turnOf 26 = .ok (.getfield 7, 3) := by decide +kernel
theorem dX12_turnOf_29 : decode cX12_turnOf 29 = .ok (.bipush 16, 2) := by decide +kernel
theorem dX12_turnOf_31 : decode cX12_turnOf 31 = .ok (.iload_n 1, 1) := by decide +kernel
theorem dX12_turnOf_32 : decode cX12_turnOf 32 = .ok (.iadd, 1) := by decide +kernel
theorem dX12_turnOf_33 : decode cX12_turnOf 33 = .ok (.iconst 1, 1) := by decide +kernel
theorem dX12_turnOf_34 : decode cX12_turnOf 34 = .ok (.sipush 999, 3) := by decide +kernel
theorem dX12_turnOf_37 : decode cX12_turnOf 37 = .ok (.aload_n 0, 1) := by decide +kernel
theorem dX12_turnOf_38 : decode cX12_turnOf 38 = .ok (.getfield 7, 3) := by decide +kernel
theorem dX12_turnOf_41 : decode cX12_turnOf 41 = .ok (.bipush 16, 2) := by decide +kernel
theorem dX12_turnOf_43 : decode cX12_turnOf 43 = .ok (.iload_n 1, 1) := by decide +kernel
theorem dX12_turnOf_44 : decode cX12_turnOf 44 = .ok (.iadd, 1) := by decide +kernel
theorem dX12_turnOf_45 : decode cX12_turnOf 45 = .ok (.iaload, 1) := by decide +kernel
theorem dX12_turnOf_46 : decode cX12_turnOf 46 = .ok (.iload_n 2, 1) := by decide +kernel
theorem dX12_turnOf_47 : decode cX12_turnOf 47 = .ok (.iadd, 1) := by decide +kernel
theorem dX12_turnOf_48 : decode cX12_turnOf 48 = .ok (.iload_n 3, 1) := by decide +kernel
theorem dX12_turnOf_49 : decode cX12_turnOf 49 = .ok (.isub, 1) := by decide +kernel
theorem dX12_turnOf_50 : decode cX12_turnOf 50 = .ok (.invokestatic 249, 3) := by decide +kernel
theorem dX12_turnOf_53 : decode cX12_turnOf 53 = .ok (.invokestatic 252, 3) := by decide +kernel
theorem dX12_turnOf_56 : decode cX12_turnOf 56 = .ok (.iastore, 1) := by decide +kernel
theorem dX12_turnOf_57 : decode cX12_turnOf 57 = .ok (.aload_n 0, 1) := by decide +kernel
theorem dX12_turnOf_58 : decode cX12_turnOf 58 = .ok (.iload_n 1, 1) := by decide +kernel
theorem dX12_turnOf_59 : decode cX12_turnOf 59 = .ok (.invokevirtual 286, 3) := by decide +kernel
theorem dX12_turnOf_62 : decode cX12_turnOf 62 = .ok (.aload_n 0, 1) := by decide +kernel
theorem dX12_turnOf_63 : decode cX12_turnOf 63 = .ok (.getfield 7, 3) := by decide +kernel
theorem dX12_turnOf_66 : decode cX12_turnOf 66 = .ok (.bipush 48, 2) := by decide +kernel
theorem dX12_turnOf_68 : decode cX12_turnOf 68 = .ok (.iload_n 1, 1) := by decide +kernel
theorem dX12_turnOf_69 : decode cX12_turnOf 69 = .ok (.iadd, 1) := by decide +kernel
theorem dX12_turnOf_70 : decode cX12_turnOf 70 = .ok (.iaload, 1) := by decide +kernel
theorem dX12_turnOf_71 : decode cX12_turnOf 71 = .ok (.iconst 1, 1) := by decide +kernel
theorem dX12_turnOf_72 : decode cX12_turnOf 72 = .ok (.if_icmp .ne 23, 3) := by decide +kernel
theorem dX12_turnOf_75 : decode cX12_turnOf 75 = .ok (.aload_n 0, 1) := by decide +kernel
theorem dX12_turnOf_76 : decode cX12_turnOf 76 = .ok (.bipush 114, 2) := by decide +kernel
theorem dX12_turnOf_78 : decode cX12_turnOf 78 = .ok (.invokevirtual 292, 3) := by decide +kernel
theorem dX12_turnOf_81 : decode cX12_turnOf 81 = .ok (.ifCond .eq 13, 3) := by decide +kernel
theorem dX12_turnOf_84 : decode cX12_turnOf 84 = .ok (.aload_n 0, 1) := by decide +kernel
theorem dX12_turnOf_85 : decode cX12_turnOf 85 = .ok (.getfield 7, 3) := by decide +kernel
theorem dX12_turnOf_88 : decode cX12_turnOf 88 = .ok (.bipush 48, 2) := by decide +kernel
theorem dX12_turnOf_90 : decode cX12_turnOf 90 = .ok (.iload_n 1, 1) := by decide +kernel
theorem dX12_turnOf_91 : decode cX12_turnOf 91 = .ok (.iadd, 1) := by decide +kernel
theorem dX12_turnOf_92 : decode cX12_turnOf 92 = .ok (.iconst 0, 1) := by decide +kernel
theorem dX12_turnOf_93 : decode cX12_turnOf 93 = .ok (.iastore, 1) := by decide +kernel
theorem dX12_turnOf_94 : decode cX12_turnOf 94 = .ok (.return_, 1) := by decide +kernel
theorem dX12_turnOf_95 : decode cX12_turnOf 95 = .ok (.aload_n 0, 1) := by decide +kernel
theorem dX12_turnOf_96 : decode cX12_turnOf 96 = .ok (.bipush 103, 2) := by decide +kernel
theorem dX12_turnOf_98 : decode cX12_turnOf 98 = .ok (.invokevirtual 292, 3) := by decide +kernel
theorem dX12_turnOf_101 : decode cX12_turnOf 101 = .ok (.ifCond .ne 4, 3) := by decide +kernel
theorem dX12_turnOf_104 : decode cX12_turnOf 104 = .ok (.return_, 1) := by decide +kernel
theorem dX12_turnOf_105 : decode cX12_turnOf 105 = .ok (.aload_n 0, 1) := by decide +kernel
theorem dX12_turnOf_106 : decode cX12_turnOf 106 = .ok (.bipush 102, 2) := by decide +kernel
theorem dX12_turnOf_108 : decode cX12_turnOf 108 = .ok (.bipush 15, 2) := by decide +kernel
theorem dX12_turnOf_110 : decode cX12_turnOf 110 = .ok (.iconst (-1), 1) := by decide +kernel
theorem dX12_turnOf_111 : decode cX12_turnOf 111 = .ok (.invokevirtual 289, 3) := by decide +kernel
theorem dX12_turnOf_114 : decode cX12_turnOf 114 = .ok (.istore 4, 2) := by decide +kernel
theorem dX12_turnOf_116 : decode cX12_turnOf 116 = .ok (.aload_n 0, 1) := by decide +kernel
theorem dX12_turnOf_117 : decode cX12_turnOf 117 = .ok (.bipush 101, 2) := by decide +kernel
theorem dX12_turnOf_119 : decode cX12_turnOf 119 = .ok (.sipush 999, 3) := by decide +kernel
theorem dX12_turnOf_122 : decode cX12_turnOf 122 = .ok (.iconst 0, 1) := by decide +kernel
theorem dX12_turnOf_123 : decode cX12_turnOf 123 = .ok (.invokevirtual 289, 3) := by decide +kernel
theorem dX12_turnOf_126 : decode cX12_turnOf 126 = .ok (.istore 5, 2) := by decide +kernel
theorem dX12_turnOf_128 : decode cX12_turnOf 128 = .ok (.aload_n 0, 1) := by decide +kernel
theorem dX12_turnOf_129 : decode cX12_turnOf 129 = .ok (.bipush 98, 2) := by decide +kernel
theorem dX12_turnOf_131 : decode cX12_turnOf 131 = .ok (.bipush 10, 2) := by decide +kernel
theorem dX12_turnOf_133 : decode cX12_turnOf 133 = .ok (.iconst 0, 1) := by decide +kernel
theorem dX12_turnOf_134 : decode cX12_turnOf 134 = .ok (.invokevirtual 289, 3) := by decide +kernel
theorem dX12_turnOf_137 : decode cX12_turnOf 137 = .ok (.istore 6, 2) := by decide +kernel
theorem dX12_turnOf_139 : decode cX12_turnOf 139 = .ok (.iload 4, 2) := by decide +kernel
theorem dX12_turnOf_141 : decode cX12_turnOf 141 = .ok (.iconst (-1), 1) := by decide +kernel
theorem dX12_turnOf_142 : decode cX12_turnOf 142 = .ok (.if_icmp .eq 33, 3) := by decide +kernel
theorem dX12_turnOf_145 : decode cX12_turnOf 145 = .ok (.iload 4, 2) := by decide +kernel
theorem dX12_turnOf_147 : decode cX12_turnOf 147 = .ok (.iload_n 1, 1) := by decide +kernel
theorem dX12_turnOf_148 : decode cX12_turnOf 148 = .ok (.if_icmp .eq 27, 3) := by decide +kernel
theorem dX12_turnOf_151 : decode cX12_turnOf 151 = .ok (.aload_n 0, 1) := by decide +kernel
theorem dX12_turnOf_152 : decode cX12_turnOf 152 = .ok (.iload 4, 2) := by decide +kernel
theorem dX12_turnOf_154 : decode cX12_turnOf 154 = .ok (.invokevirtual 113, 3) := by decide +kernel
theorem dX12_turnOf_157 : decode cX12_turnOf 157 = .ok (.ifCond .eq 18, 3) := by decide +kernel
theorem dX12_turnOf_160 : decode cX12_turnOf 160 = .ok (.iload 5, 2) := by decide +kernel
theorem dX12_turnOf_162 : decode cX12_turnOf 162 = .ok (.aload_n 0, 1) := by decide +kernel
theorem dX12_turnOf_163 : decode cX12_turnOf 163 = .ok (.getfield 7, 3) := by decide +kernel
theorem dX12_turnOf_166 : decode cX12_turnOf 166 = .ok (.bipush 16, 2) := by decide +kernel
theorem dX12_turnOf_168 : decode cX12_turnOf 168 = .ok (.iload 4, 2) := by decide +kernel
theorem dX12_turnOf_170 : decode cX12_turnOf 170 = .ok (.iadd, 1) := by decide +kernel
theorem dX12_turnOf_171 : decode cX12_turnOf 171 = .ok (.iaload, 1) := by decide +kernel
theorem dX12_turnOf_172 : decode cX12_turnOf 172 = .ok (.iadd, 1) := by decide +kernel
theorem dX12_turnOf_173 : decode cX12_turnOf 173 = .ok (.istore 5, 2) := by decide +kernel
theorem dX12_turnOf_175 : decode cX12_turnOf 175 = .ok (.aload_n 0, 1) := by decide +kernel
theorem dX12_turnOf_176 : decode cX12_turnOf 176 = .ok (.getfield 7, 3) := by decide +kernel
theorem dX12_turnOf_179 : decode cX12_turnOf 179 = .ok (.bipush 97, 2) := by decide +kernel
theorem dX12_turnOf_181 : decode cX12_turnOf 181 = .ok (.sipush 25173, 3) := by decide +kernel
theorem dX12_turnOf_184 : decode cX12_turnOf 184 = .ok (.aload_n 0, 1) := by decide +kernel
theorem dX12_turnOf_185 : decode cX12_turnOf 185 = .ok (.getfield 7, 3) := by decide +kernel
theorem dX12_turnOf_188 : decode cX12_turnOf 188 = .ok (.bipush 97, 2) := by decide +kernel
theorem dX12_turnOf_190 : decode cX12_turnOf 190 = .ok (.iaload, 1) := by decide +kernel
theorem dX12_turnOf_191 : decode cX12_turnOf 191 = .ok (.imul, 1) := by decide +kernel
theorem dX12_turnOf_192 : decode cX12_turnOf 192 = .ok (.sipush 13849, 3) := by decide +kernel
theorem dX12_turnOf_195 : decode cX12_turnOf 195 = .ok (.iadd, 1) := by decide +kernel
theorem dX12_turnOf_196 : decode cX12_turnOf 196 = .ok (.ldc_w 295, 3) := by decide +kernel
theorem dX12_turnOf_199 : decode cX12_turnOf 199 = .ok (.irem, 1) := by decide +kernel
theorem dX12_turnOf_200 : decode cX12_turnOf 200 = .ok (.iastore, 1) := by decide +kernel
theorem dX12_turnOf_201 : decode cX12_turnOf 201 = .ok (.aload_n 0, 1) := by decide +kernel
theorem dX12_turnOf_202 : decode cX12_turnOf 202 = .ok (.getfield 7, 3) := by decide +kernel
theorem dX12_turnOf_205 : decode cX12_turnOf 205 = .ok (.bipush 97, 2) := by decide +kernel
theorem dX12_turnOf_207 : decode cX12_turnOf 207 = .ok (.iaload, 1) := by decide +kernel
theorem dX12_turnOf_208 : decode cX12_turnOf 208 = .ok (.bipush 10, 2) := by decide +kernel
theorem dX12_turnOf_210 : decode cX12_turnOf 210 = .ok (.irem, 1) := by decide +kernel
theorem dX12_turnOf_211 : decode cX12_turnOf 211 = .ok (.iload 6, 2) := by decide +kernel
theorem dX12_turnOf_213 : decode cX12_turnOf 213 = .ok (.if_icmp .ge 22, 3) := by decide +kernel
theorem dX12_turnOf_216 : decode cX12_turnOf 216 = .ok (.iload 5, 2) := by decide +kernel
theorem dX12_turnOf_218 : decode cX12_turnOf 218 = .ok (.aload_n 0, 1) := by decide +kernel
theorem dX12_turnOf_219 : decode cX12_turnOf 219 = .ok (.getfield 101, 3) := by decide +kernel
theorem dX12_turnOf_222 : decode cX12_turnOf 222 = .ok (.iadd, 1) := by decide +kernel
theorem dX12_turnOf_223 : decode cX12_turnOf 223 = .ok (.istore 5, 2) := by decide +kernel
theorem dX12_turnOf_225 : decode cX12_turnOf 225 = .ok (.aload_n 0, 1) := by decide +kernel
theorem dX12_turnOf_226 : decode cX12_turnOf 226 = .ok (.aload_n 0, 1) := by decide +kernel
theorem dX12_turnOf_227 : decode cX12_turnOf 227 = .ok (.getfield 296, 3) := by decide +kernel
theorem dX12_turnOf_230 : decode cX12_turnOf 230 = .ok (.iconst 1, 1) := by decide +kernel
theorem dX12_turnOf_231 : decode cX12_turnOf 231 = .ok (.iadd, 1) := by decide +kernel
theorem dX12_turnOf_232 : decode cX12_turnOf 232 = .ok (.putfield 296, 3) := by decide +kernel
theorem dX12_turnOf_235 : decode cX12_turnOf 235 = .ok (.aload_n 0, 1) := by decide +kernel
theorem dX12_turnOf_236 : decode cX12_turnOf 236 = .ok (.iload_n 1, 1) := by decide +kernel
theorem dX12_turnOf_237 : decode cX12_turnOf 237 = .ok (.iload 5, 2) := by decide +kernel
theorem dX12_turnOf_239 : decode cX12_turnOf 239 = .ok (.invokevirtual 299, 3) := by decide +kernel
theorem dX12_turnOf_242 : decode cX12_turnOf 242 = .ok (.return_, 1) := by decide +kernel
set_option maxRecDepth 20000 in
theorem ggX12_hoursGo_X12_isTold : GoodIn wsX12_hoursGo wsX12_isTold := goodIn_r _ [10, 5, 11, 12, 9, 13, 78, 79, 80, 81, 82, 83, 84, 85, 86, 87, 88, 89, 90, 91, 92, 93, 94, 95, 96, 97, 98, 99, 100, 101, 102, 103, 104, 105, 106, 107, 108, 109, 110, 111, 112, 113, 114, 115, 116, 117, 118, 119, 120, 121, 122, 123, 124, 125, 126, 127, 128, 129] (by decide +kernel) (by decide +kernel)
set_option maxRecDepth 20000 in
theorem gX12_hoursGo_X12_isTold : GoodIn wsX12_hoursGo (wsV RX12 109 RX12 yX12_isTold wsX12_isTold) := goodIn_app (goodIn_of _ (by decide +kernel)) ggX12_hoursGo_X12_isTold
set_option maxRecDepth 20000 in
theorem ggX12_hoursGo_X12_turnOf : GoodIn wsX12_hoursGo wsX12_turnOf := goodIn_r _ [17, 5, 18, 19, 4, 20, 21, 22, 9, 23, 24, 25, 26, 27, 28, 29, 30, 31, 32, 6, 7, 8, 10, 11, 12, 13, 33, 34, 35, 36, 37, 38, 39, 40, 41, 42, 43, 44, 45, 46, 47, 48, 49, 50, 51, 52, 53, 54, 55, 56, 57, 58, 59, 60, 61, 62, 63, 64, 65, 66, 67, 68, 69, 70, 71, 72, 73, 74, 75, 76, 77, 2, 3, 1, 78, 79, 80, 81, 82, 83, 84, 85, 86, 87, 88, 89, 90, 91, 92, 93, 94, 95, 96, 97, 98, 99, 100, 101, 102, 103, 104, 105, 106, 107, 108, 109, 110, 111, 112, 113, 114, 115, 116, 117, 118, 119, 120, 121, 122, 123, 124, 125, 126, 127, 128, 129] (by decide +kernel) (by decide +kernel)
set_option maxRecDepth 20000 in
theorem gX12_hoursGo_X12_turnOf : GoodIn wsX12_hoursGo (wsV RX12 302 RX12 yX12_turnOf wsX12_turnOf) := goodIn_app (goodIn_of _ (by decide +kernel)) ggX12_hoursGo_X12_turnOf
theorem dX12_hoursGo_0 : decode cX12_hoursGo 0 = .ok (.aload_n 0, 1) := by decide +kernel
theorem dX12_hoursGo_1 : decode cX12_hoursGo 1 = .ok (.iconst 0, 1) := by decide +kernel
theorem dX12_hoursGo_2 : decode cX12_hoursGo 2 = .ok (.putfield 283, 3) := by decide +kernel
theorem dX12_hoursGo_5 : decode cX12_hoursGo 5 = .ok (.aload_n 0, 1) := by decide +kernel
theorem dX12_hoursGo_6 : decode cX12_hoursGo 6 = .ok (.iconst 0, 1) := by decide +kernel
theorem dX12_hoursGo_7 : decode cX12_hoursGo 7 = .ok (.putfield 277, 3) := by decide +kernel
theorem dX12_hoursGo_10 : decode cX12_hoursGo 10 = .ok (.aload_n 0, 1) := by decide +kernel
theorem dX12_hoursGo_11 : decode cX12_hoursGo 11 = .ok (.iconst 0, 1) := by decide +kernel
theorem dX12_hoursGo_12 : decode cX12_hoursGo 12 = .ok (.putfield 280, 3) := by decide +kernel
theorem dX12_hoursGo_15 : decode cX12_hoursGo 15 = .ok (.aload_n 0, 1) := by decide +kernel
theorem dX12_hoursGo_16 : decode cX12_hoursGo 16 = .ok (.iconst 0, 1) := by decide +kernel
theorem dX12_hoursGo_17 : decode cX12_hoursGo 17 = .ok (.putfield 296, 3) := by decide +kernel
theorem dX12_hoursGo_20 : decode cX12_hoursGo 20 = .ok (.iconst 0, 1) := by decide +kernel
theorem dX12_hoursGo_21 : decode cX12_hoursGo 21 = .ok (.istore_n 2, 1) := by decide +kernel
theorem dX12_hoursGo_22 : decode cX12_hoursGo 22 = .ok (.iload_n 2, 1) := by decide +kernel
theorem dX12_hoursGo_23 : decode cX12_hoursGo 23 = .ok (.iload_n 1, 1) := by decide +kernel
theorem dX12_hoursGo_24 : decode cX12_hoursGo 24 = .ok (.if_icmp .ge 65, 3) := by decide +kernel
theorem dX12_hoursGo_27 : decode cX12_hoursGo 27 = .ok (.aload_n 0, 1) := by decide +kernel
theorem dX12_hoursGo_28 : decode cX12_hoursGo 28 = .ok (.getfield 7, 3) := by decide +kernel
theorem dX12_hoursGo_31 : decode cX12_hoursGo 31 = .ok (.bipush 96, 2) := by decide +kernel
theorem dX12_hoursGo_33 : decode cX12_hoursGo 33 = .ok (.iaload, 1) := by decide +kernel
theorem dX12_hoursGo_34 : decode cX12_hoursGo 34 = .ok (.sipush 9999, 3) := by decide +kernel
theorem dX12_hoursGo_37 : decode cX12_hoursGo 37 = .ok (.if_icmp .ge 52, 3) := by decide +kernel
theorem dX12_hoursGo_40 : decode cX12_hoursGo 40 = .ok (.iconst 0, 1) := by decide +kernel
theorem dX12_hoursGo_41 : decode cX12_hoursGo 41 = .ok (.istore_n 3, 1) := by decide +kernel
theorem dX12_hoursGo_42 : decode cX12_hoursGo 42 = .ok (.iload_n 3, 1) := by decide +kernel
theorem dX12_hoursGo_43 : decode cX12_hoursGo 43 = .ok (.bipush 16, 2) := by decide +kernel
theorem dX12_hoursGo_45 : decode cX12_hoursGo 45 = .ok (.if_icmp .ge 22, 3) := by decide +kernel
theorem dX12_hoursGo_48 : decode cX12_hoursGo 48 = .ok (.aload_n 0, 1) := by decide +kernel
theorem dX12_hoursGo_49 : decode cX12_hoursGo 49 = .ok (.iload_n 3, 1) := by decide +kernel
theorem dX12_hoursGo_50 : decode cX12_hoursGo 50 = .ok (.invokevirtual 109, 3) := by decide +kernel
theorem dX12_hoursGo_53 : decode cX12_hoursGo 53 = .ok (.ifCond .eq 8, 3) := by decide +kernel
theorem dX12_hoursGo_56 : decode cX12_hoursGo 56 = .ok (.aload_n 0, 1) := by decide +kernel
theorem dX12_hoursGo_57 : decode cX12_hoursGo 57 = .ok (.iload_n 3, 1) := by decide +kernel
theorem dX12_hoursGo_58 : decode cX12_hoursGo 58 = .ok (.invokevirtual 302, 3) := by decide +kernel
theorem dX12_hoursGo_61 : decode cX12_hoursGo 61 = .ok (.iinc 3 1, 3) := by decide +kernel
theorem dX12_hoursGo_64 : decode cX12_hoursGo 64 = .ok (.goto (-22), 3) := by decide +kernel
theorem dX12_hoursGo_67 : decode cX12_hoursGo 67 = .ok (.aload_n 0, 1) := by decide +kernel
theorem dX12_hoursGo_68 : decode cX12_hoursGo 68 = .ok (.getfield 7, 3) := by decide +kernel
theorem dX12_hoursGo_71 : decode cX12_hoursGo 71 = .ok (.bipush 96, 2) := by decide +kernel
theorem dX12_hoursGo_73 : decode cX12_hoursGo 73 = .ok (.aload_n 0, 1) := by decide +kernel
theorem dX12_hoursGo_74 : decode cX12_hoursGo 74 = .ok (.getfield 7, 3) := by decide +kernel
theorem dX12_hoursGo_77 : decode cX12_hoursGo 77 = .ok (.bipush 96, 2) := by decide +kernel
theorem dX12_hoursGo_79 : decode cX12_hoursGo 79 = .ok (.iaload, 1) := by decide +kernel
theorem dX12_hoursGo_80 : decode cX12_hoursGo 80 = .ok (.iconst 1, 1) := by decide +kernel
theorem dX12_hoursGo_81 : decode cX12_hoursGo 81 = .ok (.iadd, 1) := by decide +kernel
theorem dX12_hoursGo_82 : decode cX12_hoursGo 82 = .ok (.iastore, 1) := by decide +kernel
theorem dX12_hoursGo_83 : decode cX12_hoursGo 83 = .ok (.iinc 2 1, 3) := by decide +kernel
theorem dX12_hoursGo_86 : decode cX12_hoursGo 86 = .ok (.goto (-64), 3) := by decide +kernel
theorem dX12_hoursGo_89 : decode cX12_hoursGo 89 = .ok (.return_, 1) := by decide +kernel
set_option maxRecDepth 20000 in
theorem ggX12_hours_X12_in : GoodIn wsX12_hours wsX12_in := goodIn_r _ [5] (by decide +kernel) (by decide +kernel)
set_option maxRecDepth 20000 in
theorem gX12_hours_X12_in : GoodIn wsX12_hours (va_wsS RX12 105 yX12_in wsX12_in) := goodIn_app (goodIn_of _ (by decide +kernel)) ggX12_hours_X12_in
set_option maxRecDepth 20000 in
theorem ggX12_hours_X12_hoursGo : GoodIn wsX12_hours wsX12_hoursGo := goodIn_r _ [9, 1, 10, 11, 12, 13, 14, 15, 16, 4, 17, 2, 3, 5, 18, 19, 20, 21, 22, 23, 24, 25, 26, 27, 28, 29, 30, 31, 32, 33, 34, 35, 36, 37, 38, 39, 40, 41, 42, 43, 44, 45, 46, 47, 48, 49, 50, 51, 52, 53, 54, 55, 56, 57, 58, 59, 60, 61, 62, 63, 64, 65, 66, 67, 68, 69, 70, 71, 72, 73, 74, 75, 76, 77, 78, 79, 80, 81, 82, 83, 84, 85, 86, 87, 88, 89, 90, 91, 92, 93, 94, 95, 96, 97, 98, 99, 100, 101, 102, 103, 104, 105, 106, 107, 108, 109, 110, 111, 112, 113, 114, 115, 116, 117, 118, 119, 120, 121, 122, 123, 124, 125, 126, 127, 128, 129, 130, 131, 132, 133] (by decide +kernel) (by decide +kernel)
set_option maxRecDepth 20000 in
theorem gX12_hours_X12_hoursGo : GoodIn wsX12_hours (wsV RX12 305 RX12 yX12_hoursGo wsX12_hoursGo) := goodIn_app (goodIn_of _ (by decide +kernel)) ggX12_hours_X12_hoursGo
theorem dX12_hours_0 : decode cX12_hours 0 = .ok (.iload_n 1, 1) := by decide +kernel
theorem dX12_hours_1 : decode cX12_hours 1 = .ok (.iconst 1, 1) := by decide +kernel
theorem dX12_hours_2 : decode cX12_hours 2 = .ok (.sipush 240, 3) := by decide +kernel
theorem dX12_hours_5 : decode cX12_hours 5 = .ok (.invokestatic 105, 3) := by decide +kernel
theorem dX12_hours_8 : decode cX12_hours 8 = .ok (.ifCond .ne 5, 3) := by decide +kernel
theorem dX12_hours_11 : decode cX12_hours 11 = .ok (.iconst (-1), 1) := by decide +kernel
theorem dX12_hours_12 : decode cX12_hours 12 = .ok (.ireturn, 1) := by decide +kernel
theorem dX12_hours_13 : decode cX12_hours 13 = .ok (.aload_n 0, 1) := by decide +kernel
theorem dX12_hours_14 : decode cX12_hours 14 = .ok (.iload_n 1, 1) := by decide +kernel
theorem dX12_hours_15 : decode cX12_hours 15 = .ok (.invokevirtual 305, 3) := by decide +kernel
theorem dX12_hours_18 : decode cX12_hours 18 = .ok (.aload_n 0, 1) := by decide +kernel
theorem dX12_hours_19 : decode cX12_hours 19 = .ok (.getfield 283, 3) := by decide +kernel
theorem dX12_hours_22 : decode cX12_hours 22 = .ok (.ireturn, 1) := by decide +kernel
set_option maxRecDepth 20000 in
theorem ggX12_tried_X12_in : GoodIn wsX12_tried wsX12_in := goodIn_r _ [10] (by decide +kernel) (by decide +kernel)
set_option maxRecDepth 20000 in
theorem gX12_tried_X12_in : GoodIn wsX12_tried (va_wsS RX12 105 yX12_in wsX12_in) := goodIn_app (goodIn_of _ (by decide +kernel)) ggX12_tried_X12_in
set_option maxRecDepth 20000 in
theorem ggX12_tried_X12_isTold : GoodIn wsX12_tried wsX12_isTold := goodIn_r _ [14, 1, 7, 8, 9, 10, 86, 87, 88, 89, 90, 91, 92, 93, 94, 95, 96, 97, 98, 99, 100, 101, 102, 103, 104, 105, 106, 107, 108, 109, 110, 111, 112, 113, 114, 115, 116, 117, 118, 119, 120, 121, 122, 123, 124, 125, 126, 127, 128, 129, 130, 131, 132, 133, 134, 135, 136, 137] (by decide +kernel) (by decide +kernel)
set_option maxRecDepth 20000 in
theorem gX12_tried_X12_isTold : GoodIn wsX12_tried (wsV RX12 109 RX12 yX12_isTold wsX12_isTold) := goodIn_app (goodIn_of _ (by decide +kernel)) ggX12_tried_X12_isTold
set_option maxRecDepth 20000 in
theorem ggX12_tried_X12_copies : GoodIn wsX12_tried wsX12_copies := goodIn_r _ [17] (by decide +kernel) (by decide +kernel)
set_option maxRecDepth 20000 in
theorem gX12_tried_X12_copies : GoodIn wsX12_tried (va_wsS RX12 255 yX12_copies wsX12_copies) := goodIn_app (goodIn_of _ (by decide +kernel)) ggX12_tried_X12_copies
set_option maxRecDepth 20000 in
theorem ggX12_tried_X12_hoursGo : GoodIn wsX12_tried wsX12_hoursGo := goodIn_r _ [21, 3, 4, 5, 6, 1, 11, 12, 13, 9, 14, 7, 8, 10, 22, 23, 24, 25, 26, 27, 28, 29, 30, 31, 32, 33, 34, 35, 36, 37, 38, 39, 40, 41, 42, 43, 44, 45, 46, 47, 48, 49, 50, 51, 52, 53, 54, 55, 56, 57, 58, 59, 60, 61, 62, 63, 64, 65, 66, 67, 68, 69, 70, 71, 72, 73, 74, 75, 76, 77, 78, 79, 80, 81, 82, 83, 84, 85, 86, 87, 88, 89, 90, 91, 92, 93, 94, 95, 96, 97, 98, 99, 100, 101, 102, 103, 104, 105, 106, 107, 108, 109, 110, 111, 112, 113, 114, 115, 116, 117, 118, 119, 120, 121, 122, 123, 124, 125, 126, 127, 128, 129, 130, 131, 132, 133, 134, 135, 136, 137] (by decide +kernel) (by decide +kernel)
set_option maxRecDepth 20000 in
theorem gX12_tried_X12_hoursGo : GoodIn wsX12_tried (wsV RX12 305 RX12 yX12_hoursGo wsX12_hoursGo) := goodIn_app (goodIn_of _ (by decide +kernel)) ggX12_tried_X12_hoursGo
set_option maxRecDepth 20000 in
theorem ggX12_tried_X12_overMany : GoodIn wsX12_tried wsX12_overMany := goodIn_r _ [36, 37, 38, 39, 9, 40, 11, 12, 13, 14, 1, 7, 8, 10, 41, 42, 43, 44, 45, 46, 47, 48, 49, 50, 51, 86, 87, 88, 89, 90, 91, 92, 93, 94, 95, 96, 97, 98, 99, 100, 101, 102, 103, 104, 105, 106, 107, 108, 109, 110, 111, 112, 113, 114, 115, 116, 117, 118, 119, 120, 121, 122, 123, 124, 125, 126, 127, 128, 129, 130, 131, 132, 133, 134, 135, 136, 137] (by decide +kernel) (by decide +kernel)
set_option maxRecDepth 20000 in
theorem gX12_tried_X12_overMany : GoodIn wsX12_tried (wsV RX12 240 RX12 yX12_overMany wsX12_overMany) := goodIn_app (goodIn_of _ (by decide +kernel)) ggX12_tried_X12_overMany
theorem dX12_tried_0 : decode cX12_tried 0 = .ok (.iload_n 1, 1) := by decide +kernel
theorem dX12_tried_1 : decode cX12_tried 1 = .ok (.iconst 1, 1) := by decide +kernel
theorem dX12_tried_2 : decode cX12_tried 2 = .ok (.sipush 240, 3) := by decide +kernel
theorem dX12_tried_5 : decode cX12_tried 5 = .ok (.invokestatic 105, 3) := by decide +kernel
theorem dX12_tried_8 : decode cX12_tried 8 = .ok (.ifCond .eq 35, 3) := by decide +kernel
theorem dX12_tried_11 : decode cX12_tried 11 = .ok (.iload_n 2, 1) := by decide +kernel
theorem dX12_tried_12 : decode cX12_tried 12 = .ok (.iconst 0, 1) := by decide +kernel
theorem dX12_tried_13 : decode cX12_tried 13 = .ok (.iconst 4, 1) := by decide +kernel
theorem dX12_tried_14 : decode cX12_tried 14 = .ok (.invokestatic 105, 3) := by decide +kernel
theorem dX12_tried_17 : decode cX12_tried 17 = .ok (.ifCond .ne 28, 3) := by decide +kernel
theorem dX12_tried_20 : decode cX12_tried 20 = .ok (.aload_n 0, 1) := by decide +kernel
theorem dX12_tried_21 : decode cX12_tried 21 = .ok (.iload_n 2, 1) := by decide +kernel
theorem dX12_tried_22 : decode cX12_tried 22 = .ok (.bipush 100, 2) := by decide +kernel
theorem dX12_tried_24 : decode cX12_tried 24 = .ok (.isub, 1) := by decide +kernel
theorem dX12_tried_25 : decode cX12_tried 25 = .ok (.invokevirtual 109, 3) := by decide +kernel
theorem dX12_tried_28 : decode cX12_tried 28 = .ok (.ifCond .ne 17, 3) := by decide +kernel
theorem dX12_tried_31 : decode cX12_tried 31 = .ok (.aload_n 0, 1) := by decide +kernel
theorem dX12_tried_32 : decode cX12_tried 32 = .ok (.iload_n 2, 1) := by decide +kernel
theorem dX12_tried_33 : decode cX12_tried 33 = .ok (.sipush 200, 3) := by decide +kernel
theorem dX12_tried_36 : decode cX12_tried 36 = .ok (.isub, 1) := by decide +kernel
theorem dX12_tried_37 : decode cX12_tried 37 = .ok (.invokevirtual 109, 3) := by decide +kernel
theorem dX12_tried_40 : decode cX12_tried 40 = .ok (.ifCond .ne 5, 3) := by decide +kernel
theorem dX12_tried_43 : decode cX12_tried 43 = .ok (.iconst (-1), 1) := by decide +kernel
theorem dX12_tried_44 : decode cX12_tried 44 = .ok (.ireturn, 1) := by decide +kernel
theorem dX12_tried_45 : decode cX12_tried 45 = .ok (.aload_n 0, 1) := by decide +kernel
theorem dX12_tried_46 : decode cX12_tried 46 = .ok (.getfield 7, 3) := by decide +kernel
theorem dX12_tried_49 : decode cX12_tried 49 = .ok (.aload_n 0, 1) := by decide +kernel
theorem dX12_tried_50 : decode cX12_tried 50 = .ok (.getfield 13, 3) := by decide +kernel
theorem dX12_tried_53 : decode cX12_tried 53 = .ok (.invokestatic 255, 3) := by decide +kernel
theorem dX12_tried_56 : decode cX12_tried 56 = .ok (.aload_n 0, 1) := by decide +kernel
theorem dX12_tried_57 : decode cX12_tried 57 = .ok (.iload_n 1, 1) := by decide +kernel
theorem dX12_tried_58 : decode cX12_tried 58 = .ok (.invokevirtual 305, 3) := by decide +kernel
theorem dX12_tried_61 : decode cX12_tried 61 = .ok (.iload_n 2, 1) := by decide +kernel
theorem dX12_tried_62 : decode cX12_tried 62 = .ok (.tableswitch 74 0 4 #[34, 42, 50, 58, 66], 34) := by decide +kernel
theorem dX12_tried_96 : decode cX12_tried 96 = .ok (.aload_n 0, 1) := by decide +kernel
theorem dX12_tried_97 : decode cX12_tried 97 = .ok (.getfield 283, 3) := by decide +kernel
theorem dX12_tried_100 : decode cX12_tried 100 = .ok (.istore_n 3, 1) := by decide +kernel
theorem dX12_tried_101 : decode cX12_tried 101 = .ok (.goto 71, 3) := by decide +kernel
theorem dX12_tried_104 : decode cX12_tried 104 = .ok (.aload_n 0, 1) := by decide +kernel
theorem dX12_tried_105 : decode cX12_tried 105 = .ok (.getfield 277, 3) := by decide +kernel
theorem dX12_tried_108 : decode cX12_tried 108 = .ok (.istore_n 3, 1) := by decide +kernel
theorem dX12_tried_109 : decode cX12_tried 109 = .ok (.goto 63, 3) := by decide +kernel
theorem dX12_tried_112 : decode cX12_tried 112 = .ok (.aload_n 0, 1) := by decide +kernel
theorem dX12_tried_113 : decode cX12_tried 113 = .ok (.getfield 280, 3) := by decide +kernel
theorem dX12_tried_116 : decode cX12_tried 116 = .ok (.istore_n 3, 1) := by decide +kernel
theorem dX12_tried_117 : decode cX12_tried 117 = .ok (.goto 55, 3) := by decide +kernel
theorem dX12_tried_120 : decode cX12_tried 120 = .ok (.aload_n 0, 1) := by decide +kernel
theorem dX12_tried_121 : decode cX12_tried 121 = .ok (.invokevirtual 240, 3) := by decide +kernel
theorem dX12_tried_124 : decode cX12_tried 124 = .ok (.istore_n 3, 1) := by decide +kernel
theorem dX12_tried_125 : decode cX12_tried 125 = .ok (.goto 47, 3) := by decide +kernel
theorem dX12_tried_128 : decode cX12_tried 128 = .ok (.aload_n 0, 1) := by decide +kernel
theorem dX12_tried_129 : decode cX12_tried 129 = .ok (.getfield 296, 3) := by decide +kernel
theorem dX12_tried_132 : decode cX12_tried 132 = .ok (.istore_n 3, 1) := by decide +kernel
theorem dX12_tried_133 : decode cX12_tried 133 = .ok (.goto 39, 3) := by decide +kernel
theorem dX12_tried_136 : decode cX12_tried 136 = .ok (.iload_n 2, 1) := by decide +kernel
theorem dX12_tried_137 : decode cX12_tried 137 = .ok (.sipush 200, 3) := by decide +kernel
theorem dX12_tried_140 : decode cX12_tried 140 = .ok (.if_icmp .ge 18, 3) := by decide +kernel
theorem dX12_tried_143 : decode cX12_tried 143 = .ok (.aload_n 0, 1) := by decide +kernel
theorem dX12_tried_144 : decode cX12_tried 144 = .ok (.getfield 7, 3) := by decide +kernel
theorem dX12_tried_147 : decode cX12_tried 147 = .ok (.bipush 16, 2) := by decide +kernel
theorem dX12_tried_149 : decode cX12_tried 149 = .ok (.iload_n 2, 1) := by decide +kernel
theorem dX12_tried_150 : decode cX12_tried 150 = .ok (.iadd, 1) := by decide +kernel
theorem dX12_tried_151 : decode cX12_tried 151 = .ok (.bipush 100, 2) := by decide +kernel
theorem dX12_tried_153 : decode cX12_tried 153 = .ok (.isub, 1) := by decide +kernel
theorem dX12_tried_154 : decode cX12_tried 154 = .ok (.iaload, 1) := by decide +kernel
theorem dX12_tried_155 : decode cX12_tried 155 = .ok (.goto 16, 3) := by decide +kernel
theorem dX12_tried_158 : decode cX12_tried 158 = .ok (.aload_n 0, 1) := by decide +kernel
theorem dX12_tried_159 : decode cX12_tried 159 = .ok (.getfield 7, 3) := by decide +kernel
theorem dX12_tried_162 : decode cX12_tried 162 = .ok (.bipush 80, 2) := by decide +kernel
theorem dX12_tried_164 : decode cX12_tried 164 = .ok (.iload_n 2, 1) := by decide +kernel
theorem dX12_tried_165 : decode cX12_tried 165 = .ok (.iadd, 1) := by decide +kernel
theorem dX12_tried_166 : decode cX12_tried 166 = .ok (.sipush 200, 3) := by decide +kernel
theorem dX12_tried_169 : decode cX12_tried 169 = .ok (.isub, 1) := by decide +kernel
theorem dX12_tried_170 : decode cX12_tried 170 = .ok (.iaload, 1) := by decide +kernel
theorem dX12_tried_171 : decode cX12_tried 171 = .ok (.istore_n 3, 1) := by decide +kernel
theorem dX12_tried_172 : decode cX12_tried 172 = .ok (.aload_n 0, 1) := by decide +kernel
theorem dX12_tried_173 : decode cX12_tried 173 = .ok (.getfield 13, 3) := by decide +kernel
theorem dX12_tried_176 : decode cX12_tried 176 = .ok (.aload_n 0, 1) := by decide +kernel
theorem dX12_tried_177 : decode cX12_tried 177 = .ok (.getfield 7, 3) := by decide +kernel
theorem dX12_tried_180 : decode cX12_tried 180 = .ok (.invokestatic 255, 3) := by decide +kernel
theorem dX12_tried_183 : decode cX12_tried 183 = .ok (.iload_n 3, 1) := by decide +kernel
theorem dX12_tried_184 : decode cX12_tried 184 = .ok (.ireturn, 1) := by decide +kernel
set_option maxRecDepth 20000 in
theorem ggX12_walkerIs_X12_isTold : GoodIn wsX12_walkerIs wsX12_isTold := goodIn_r _ [6, 1, 7, 8, 5, 9, 10, 11, 12, 13, 14, 15, 16, 17, 18, 19, 20, 21, 22, 23, 24, 25, 26, 27, 28, 29, 30, 31, 32, 33, 34, 35, 36, 37, 38, 39, 40, 41, 42, 43, 44, 45, 46, 47, 48, 49, 50, 51, 52, 53, 54, 55, 56, 57, 58, 59, 60, 61] (by decide +kernel) (by decide +kernel)
set_option maxRecDepth 20000 in
theorem gX12_walkerIs_X12_isTold : GoodIn wsX12_walkerIs (wsV RX12 109 RX12 yX12_isTold wsX12_isTold) := goodIn_app (goodIn_of _ (by decide +kernel)) ggX12_walkerIs_X12_isTold
set_option maxRecDepth 20000 in
theorem ggX12_walkerIs_X12_in : GoodIn wsX12_walkerIs wsX12_in := goodIn_r _ [9] (by decide +kernel) (by decide +kernel)
set_option maxRecDepth 20000 in
theorem gX12_walkerIs_X12_in : GoodIn wsX12_walkerIs (va_wsS RX12 105 yX12_in wsX12_in) := goodIn_app (goodIn_of _ (by decide +kernel)) ggX12_walkerIs_X12_in
theorem dX12_walkerIs_0 : decode cX12_walkerIs 0 = .ok (.aload_n 0, 1) := by decide +kernel
theorem dX12_walkerIs_1 : decode cX12_walkerIs 1 = .ok (.iload_n 1, 1) := by decide +kernel
theorem dX12_walkerIs_2 : decode cX12_walkerIs 2 = .ok (.invokevirtual 109, 3) := by decide +kernel
theorem dX12_walkerIs_5 : decode cX12_walkerIs 5 = .ok (.ifCond .eq 29, 3) := by decide +kernel
theorem dX12_walkerIs_8 : decode cX12_walkerIs 8 = .ok (.iload_n 2, 1) := by decide +kernel
theorem dX12_walkerIs_9 : decode cX12_walkerIs 9 = .ok (.iconst 0, 1) := by decide +kernel
theorem dX12_walkerIs_10 : decode cX12_walkerIs 10 = .ok (.iconst 4, 1) := by decide +kernel
theorem dX12_walkerIs_11 : decode cX12_walkerIs 11 = .ok (.invokestatic 105, 3) := by decide +kernel
theorem dX12_walkerIs_14 : decode cX12_walkerIs 14 = .ok (.ifCond .eq 20, 3) := by decide +kernel
theorem dX12_walkerIs_17 : decode cX12_walkerIs 17 = .ok (.aload_n 0, 1) := by decide +kernel
theorem dX12_walkerIs_18 : decode cX12_walkerIs 18 = .ok (.getfield 7, 3) := by decide +kernel
theorem dX12_walkerIs_21 : decode cX12_walkerIs 21 = .ok (.bipush 16, 2) := by decide +kernel
theorem dX12_walkerIs_23 : decode cX12_walkerIs 23 = .ok (.bipush 16, 2) := by decide +kernel
theorem dX12_walkerIs_25 : decode cX12_walkerIs 25 = .ok (.iload_n 2, 1) := by decide +kernel
theorem dX12_walkerIs_26 : decode cX12_walkerIs 26 = .ok (.imul, 1) := by decide +kernel
theorem dX12_walkerIs_27 : decode cX12_walkerIs 27 = .ok (.iadd, 1) := by decide +kernel
theorem dX12_walkerIs_28 : decode cX12_walkerIs 28 = .ok (.iload_n 1, 1) := by decide +kernel
theorem dX12_walkerIs_29 : decode cX12_walkerIs 29 = .ok (.iadd, 1) := by decide +kernel
theorem dX12_walkerIs_30 : decode cX12_walkerIs 30 = .ok (.iaload, 1) := by decide +kernel
theorem dX12_walkerIs_31 : decode cX12_walkerIs 31 = .ok (.goto 4, 3) := by decide +kernel
theorem dX12_walkerIs_34 : decode cX12_walkerIs 34 = .ok (.iconst (-1), 1) := by decide +kernel
theorem dX12_walkerIs_35 : decode cX12_walkerIs 35 = .ok (.ireturn, 1) := by decide +kernel
set_option maxRecDepth 20000 in
theorem ggX12_sumOf_X12_has : GoodIn wsX12_sumOf wsX12_has := goodIn_r _ [5] (by decide +kernel) (by decide +kernel)
set_option maxRecDepth 20000 in
theorem gX12_sumOf_X12_has : GoodIn wsX12_sumOf (va_wsS RX12 308 yX12_has wsX12_has) := goodIn_app (goodIn_of _ (by decide +kernel)) ggX12_sumOf_X12_has
theorem dX12_sumOf_0 : decode cX12_sumOf 0 = .ok (.iconst 0, 1) := by decide +kernel
theorem dX12_sumOf_1 : decode cX12_sumOf 1 = .ok (.istore_n 2, 1) := by decide +kernel
theorem dX12_sumOf_2 : decode cX12_sumOf 2 = .ok (.iconst 0, 1) := by decide +kernel
theorem dX12_sumOf_3 : decode cX12_sumOf 3 = .ok (.istore_n 3, 1) := by decide +kernel
theorem dX12_sumOf_4 : decode cX12_sumOf 4 = .ok (.iload_n 3, 1) := by decide +kernel
theorem dX12_sumOf_5 : decode cX12_sumOf 5 = .ok (.bipush 16, 2) := by decide +kernel
theorem dX12_sumOf_7 : decode cX12_sumOf 7 = .ok (.if_icmp .ge 29, 3) := by decide +kernel
theorem dX12_sumOf_10 : decode cX12_sumOf 10 = .ok (.iload_n 1, 1) := by decide +kernel
theorem dX12_sumOf_11 : decode cX12_sumOf 11 = .ok (.iload_n 3, 1) := by decide +kernel
theorem dX12_sumOf_12 : decode cX12_sumOf 12 = .ok (.invokestatic 308, 3) := by decide +kernel
theorem dX12_sumOf_15 : decode cX12_sumOf 15 = .ok (.ifCond .eq 15, 3) := by decide +kernel
theorem dX12_sumOf_18 : decode cX12_sumOf 18 = .ok (.iload_n 2, 1) := by decide +kernel
theorem dX12_sumOf_19 : decode cX12_sumOf 19 = .ok (.aload_n 0, 1) := by decide +kernel
theorem dX12_sumOf_20 : decode cX12_sumOf 20 = .ok (.getfield 7, 3) := by decide +kernel
theorem dX12_sumOf_23 : decode cX12_sumOf 23 = .ok (.bipush 16, 2) := by decide +kernel
theorem dX12_sumOf_25 : decode cX12_sumOf 25 = .ok (.iload_n 3, 1) := by decide +kernel
theorem dX12_sumOf_26 : decode cX12_sumOf 26 = .ok (.iadd, 1) := by decide +kernel
theorem dX12_sumOf_27 : decode cX12_sumOf 27 = .ok (.iaload, 1) := by decide +kernel
theorem dX12_sumOf_28 : decode cX12_sumOf 28 = .ok (.iadd, 1) := by decide +kernel
theorem dX12_sumOf_29 : decode cX12_sumOf 29 = .ok (.istore_n 2, 1) := by decide +kernel
theorem dX12_sumOf_30 : decode cX12_sumOf 30 = .ok (.iinc 3 1, 3) := by decide +kernel
theorem dX12_sumOf_33 : decode cX12_sumOf 33 = .ok (.goto (-29), 3) := by decide +kernel
theorem dX12_sumOf_36 : decode cX12_sumOf 36 = .ok (.iload_n 2, 1) := by decide +kernel
theorem dX12_sumOf_37 : decode cX12_sumOf 37 = .ok (.ireturn, 1) := by decide +kernel
set_option maxRecDepth 20000 in
theorem ggX12_standsFor_X12_isTold : GoodIn wsX12_standsFor wsX12_isTold := goodIn_r _ [6, 1, 7, 8, 5, 9, 31, 32, 33, 34, 35, 36, 37, 38, 39, 40, 41, 42, 43, 44, 45, 46, 47, 48, 49, 50, 51, 52, 53, 54, 55, 56, 57, 58, 59, 60, 61, 62, 63, 64, 65, 66, 67, 68, 69, 70, 71, 72, 73, 74, 75, 76, 77, 78, 79, 80, 81, 82] (by decide +kernel) (by decide +kernel)
set_option maxRecDepth 20000 in
theorem gX12_standsFor_X12_isTold : GoodIn wsX12_standsFor (wsV RX12 109 RX12 yX12_isTold wsX12_isTold) := goodIn_app (goodIn_of _ (by decide +kernel)) ggX12_standsFor_X12_isTold
set_option maxRecDepth 20000 in
theorem ggX12_standsFor_X12_in : GoodIn wsX12_standsFor wsX12_in := goodIn_r _ [9] (by decide +kernel) (by decide +kernel)
set_option maxRecDepth 20000 in
theorem gX12_standsFor_X12_in : GoodIn wsX12_standsFor (va_wsS RX12 105 yX12_in wsX12_in) := goodIn_app (goodIn_of _ (by decide +kernel)) ggX12_standsFor_X12_in
set_option maxRecDepth 20000 in
theorem ggX12_standsFor_X12_hereSet : GoodIn wsX12_standsFor wsX12_hereSet := goodIn_r _ [13, 14, 15, 16, 5, 17, 1, 2, 3, 4, 6, 7, 8, 9, 31, 32, 33, 34, 35, 36, 37, 38, 39, 40, 41, 42, 43, 44, 45, 46, 47, 48, 49, 50, 51, 52, 53, 54, 55, 56, 57, 58, 59, 60, 61, 62, 63, 64, 65, 66, 67, 68, 69, 70, 71, 72, 73, 74, 75, 76, 77, 78, 79, 80, 81, 82] (by decide +kernel) (by decide +kernel)
set_option maxRecDepth 20000 in
theorem gX12_standsFor_X12_hereSet : GoodIn wsX12_standsFor (wsV RX12 234 RX12 yX12_hereSet wsX12_hereSet) := goodIn_app (goodIn_of _ (by decide +kernel)) ggX12_standsFor_X12_hereSet
set_option maxRecDepth 20000 in
theorem ggX12_standsFor_X12_sumOf : GoodIn wsX12_standsFor wsX12_sumOf := goodIn_r _ [21, 1, 22, 23, 5, 24, 31, 32, 33, 34, 35, 36, 37, 38, 39, 40, 41, 42, 43, 44, 45, 46, 47, 48, 49, 50, 51, 52, 53, 54, 55, 56, 57, 58, 59, 60, 61, 62, 63, 64, 65, 66, 67, 68, 69, 70, 71, 72, 73, 74, 75, 76, 77, 78, 79, 80, 81, 82] (by decide +kernel) (by decide +kernel)
set_option maxRecDepth 20000 in
theorem gX12_standsFor_X12_sumOf : GoodIn wsX12_standsFor (wsV RX12 311 RX12 yX12_sumOf wsX12_sumOf) := goodIn_app (goodIn_of _ (by decide +kernel)) ggX12_standsFor_X12_sumOf
set_option maxRecDepth 20000 in
theorem ggX12_standsFor_X12_size : GoodIn wsX12_standsFor wsX12_size := goodIn_r _ [27] (by decide +kernel) (by decide +kernel)
set_option maxRecDepth 20000 in
theorem gX12_standsFor_X12_size : GoodIn wsX12_standsFor (va_wsS RX12 314 yX12_size wsX12_size) := goodIn_app (goodIn_of _ (by decide +kernel)) ggX12_standsFor_X12_size
set_option maxRecDepth 20000 in
theorem ggX12_standsFor_X12_bits : GoodIn wsX12_standsFor wsX12_bits := goodIn_r _ [30] (by decide +kernel) (by decide +kernel)
set_option maxRecDepth 20000 in
theorem gX12_standsFor_X12_bits : GoodIn wsX12_standsFor (va_wsS RX12 237 yX12_bits wsX12_bits) := goodIn_app (goodIn_of _ (by decide +kernel)) ggX12_standsFor_X12_bits
theorem dX12_standsFor_0 : decode cX12_standsFor 0 = .ok (.aload_n 0, 1) := by decide +kernel
theorem dX12_standsFor_1 : decode cX12_standsFor 1 = .ok (.iload_n 1, 1) := by decide +kernel
theorem dX12_standsFor_2 : decode cX12_standsFor 2 = .ok (.invokevirtual 109, 3) := by decide +kernel
theorem dX12_standsFor_5 : decode cX12_standsFor 5 = .ok (.ifCond .eq 12, 3) := by decide +kernel
theorem dX12_standsFor_8 : decode cX12_standsFor 8 = .ok (.iload_n 2, 1) := by decide +kernel
theorem dX12_standsFor_9 : decode cX12_standsFor 9 = .ok (.iconst 0, 1) := by decide +kernel
theorem dX12_standsFor_10 : decode cX12_standsFor 10 = .ok (.iconst 1, 1) := by decide +kernel
theorem dX12_standsFor_11 : decode cX12_standsFor 11 = .ok (.invokestatic 105, 3) := by decide +kernel
theorem dX12_standsFor_14 : decode cX12_standsFor 14 = .ok (.ifCond .ne 5, 3) := by decide +kernel
theorem dX12_standsFor_17 : decode cX12_standsFor 17 = .ok (.iconst (-1), 1) := by decide +kernel
theorem dX12_standsFor_18 : decode cX12_standsFor 18 = .ok (.ireturn, 1) := by decide +kernel
theorem dX12_standsFor_19 : decode cX12_standsFor 19 = .ok (.aload_n 0, 1) := by decide +kernel
theorem dX12_standsFor_20 : decode cX12_standsFor 20 = .ok (.invokevirtual 234, 3) := by decide +kernel
theorem dX12_standsFor_23 : decode cX12_standsFor 23 = .ok (.iconst 1, 1) := by decide +kernel
theorem dX12_standsFor_24 : decode cX12_standsFor 24 = .ok (.iload_n 1, 1) := by decide +kernel
theorem dX12_standsFor_25 : decode cX12_standsFor 25 = .ok (.ishl, 1) := by decide +kernel
theorem dX12_standsFor_26 : decode cX12_standsFor 26 = .ok (.iconst (-1), 1) := by decide +kernel
theorem dX12_standsFor_27 : decode cX12_standsFor 27 = .ok (.ixor, 1) := by decide +kernel
theorem dX12_standsFor_28 : decode cX12_standsFor 28 = .ok (.iand, 1) := by decide +kernel
theorem dX12_standsFor_29 : decode cX12_standsFor 29 = .ok (.istore_n 3, 1) := by decide +kernel
theorem dX12_standsFor_30 : decode cX12_standsFor 30 = .ok (.iconst 0, 1) := by decide +kernel
theorem dX12_standsFor_31 : decode cX12_standsFor 31 = .ok (.istore 4, 2) := by decide +kernel
theorem dX12_standsFor_33 : decode cX12_standsFor 33 = .ok (.aload_n 0, 1) := by decide +kernel
theorem dX12_standsFor_34 : decode cX12_standsFor 34 = .ok (.getfield 7, 3) := by decide +kernel
theorem dX12_standsFor_37 : decode cX12_standsFor 37 = .ok (.bipush 16, 2) := by decide +kernel
theorem dX12_standsFor_39 : decode cX12_standsFor 39 = .ok (.iload_n 1, 1) := by decide +kernel
theorem dX12_standsFor_40 : decode cX12_standsFor 40 = .ok (.iadd, 1) := by decide +kernel
theorem dX12_standsFor_41 : decode cX12_standsFor 41 = .ok (.iaload, 1) := by decide +kernel
theorem dX12_standsFor_42 : decode cX12_standsFor 42 = .ok (.istore 5, 2) := by decide +kernel
theorem dX12_standsFor_44 : decode cX12_standsFor 44 = .ok (.iconst 0, 1) := by decide +kernel
theorem dX12_standsFor_45 : decode cX12_standsFor 45 = .ok (.istore 6, 2) := by decide +kernel
theorem dX12_standsFor_47 : decode cX12_standsFor 47 = .ok (.iload 6, 2) := by decide +kernel
theorem dX12_standsFor_49 : decode cX12_standsFor 49 = .ok (.iload_n 3, 1) := by decide +kernel
theorem dX12_standsFor_50 : decode cX12_standsFor 50 = .ok (.if_icmp .gt 80, 3) := by decide +kernel
theorem dX12_standsFor_53 : decode cX12_standsFor 53 = .ok (.iload 6, 2) := by decide +kernel
theorem dX12_standsFor_55 : decode cX12_standsFor 55 = .ok (.iload_n 3, 1) := by decide +kernel
theorem dX12_standsFor_56 : decode cX12_standsFor 56 = .ok (.iconst (-1), 1) := by decide +kernel
theorem dX12_standsFor_57 : decode cX12_standsFor 57 = .ok (.ixor, 1) := by decide +kernel
theorem dX12_standsFor_58 : decode cX12_standsFor 58 = .ok (.iand, 1) := by decide +kernel
theorem dX12_standsFor_59 : decode cX12_standsFor 59 = .ok (.ifCond .eq 6, 3) := by decide +kernel
theorem dX12_standsFor_62 : decode cX12_standsFor 62 = .ok (.goto 62, 3) := by decide +kernel
theorem dX12_standsFor_65 : decode cX12_standsFor 65 = .ok (.aload_n 0, 1) := by decide +kernel
theorem dX12_standsFor_66 : decode cX12_standsFor 66 = .ok (.iload 6, 2) := by decide +kernel
theorem dX12_standsFor_68 : decode cX12_standsFor 68 = .ok (.invokevirtual 311, 3) := by decide +kernel
theorem dX12_standsFor_71 : decode cX12_standsFor 71 = .ok (.aload_n 0, 1) := by decide +kernel
theorem dX12_standsFor_72 : decode cX12_standsFor 72 = .ok (.getfield 7, 3) := by decide +kernel
theorem dX12_standsFor_75 : decode cX12_standsFor 75 = .ok (.bipush 16, 2) := by decide +kernel
theorem dX12_standsFor_77 : decode cX12_standsFor 77 = .ok (.iload_n 1, 1) := by decide +kernel
theorem dX12_standsFor_78 : decode cX12_standsFor 78 = .ok (.iadd, 1) := by decide +kernel
theorem dX12_standsFor_79 : decode cX12_standsFor 79 = .ok (.iaload, 1) := by decide +kernel
theorem dX12_standsFor_80 : decode cX12_standsFor 80 = .ok (.isub, 1) := by decide +kernel
theorem dX12_standsFor_81 : decode cX12_standsFor 81 = .ok (.invokestatic 314, 3) := by decide +kernel
theorem dX12_standsFor_84 : decode cX12_standsFor 84 = .ok (.istore 7, 2) := by decide +kernel
theorem dX12_standsFor_86 : decode cX12_standsFor 86 = .ok (.iload 7, 2) := by decide +kernel
theorem dX12_standsFor_88 : decode cX12_standsFor 88 = .ok (.iload 5, 2) := by decide +kernel
theorem dX12_standsFor_90 : decode cX12_standsFor 90 = .ok (.if_icmp .gt 34, 3) := by decide +kernel
theorem dX12_standsFor_93 : decode cX12_standsFor 93 = .ok (.iload 7, 2) := by decide +kernel
theorem dX12_standsFor_95 : decode cX12_standsFor 95 = .ok (.iload 5, 2) := by decide +kernel
theorem dX12_standsFor_97 : decode cX12_standsFor 97 = .ok (.if_icmp .ne 19, 3) := by decide +kernel
theorem dX12_standsFor_100 : decode cX12_standsFor 100 = .ok (.iload 6, 2) := by decide +kernel
theorem dX12_standsFor_102 : decode cX12_standsFor 102 = .ok (.invokestatic 237, 3) := by decide +kernel
theorem dX12_standsFor_105 : decode cX12_standsFor 105 = .ok (.iload 4, 2) := by decide +kernel
theorem dX12_standsFor_107 : decode cX12_standsFor 107 = .ok (.invokestatic 237, 3) := by decide +kernel
theorem dX12_standsFor_110 : decode cX12_standsFor 110 = .ok (.if_icmp .lt 6, 3) := by decide +kernel
theorem dX12_standsFor_113 : decode cX12_standsFor 113 = .ok (.goto 11, 3) := by decide +kernel
theorem dX12_standsFor_116 : decode cX12_standsFor 116 = .ok (.iload 6, 2) := by decide +kernel
theorem dX12_standsFor_118 : decode cX12_standsFor 118 = .ok (.istore 4, 2) := by decide +kernel
theorem dX12_standsFor_120 : decode cX12_standsFor 120 = .ok (.iload 7, 2) := by decide +kernel
theorem dX12_standsFor_122 : decode cX12_standsFor 122 = .ok (.istore 5, 2) := by decide +kernel
theorem dX12_standsFor_124 : decode cX12_standsFor 124 = .ok (.iinc 6 1, 3) := by decide +kernel
theorem dX12_standsFor_127 : decode cX12_standsFor 127 = .ok (.goto (-80), 3) := by decide +kernel
theorem dX12_standsFor_130 : decode cX12_standsFor 130 = .ok (.iload_n 2, 1) := by decide +kernel
theorem dX12_standsFor_131 : decode cX12_standsFor 131 = .ok (.ifCond .ne 8, 3) := by decide +kernel
theorem dX12_standsFor_134 : decode cX12_standsFor 134 = .ok (.iload 4, 2) := by decide +kernel
theorem dX12_standsFor_136 : decode cX12_standsFor 136 = .ok (.goto 5, 3) := by decide +kernel
theorem dX12_standsFor_139 : decode cX12_standsFor 139 = .ok (.iload 5, 2) := by decide +kernel
theorem dX12_standsFor_141 : decode cX12_standsFor 141 = .ok (.ireturn, 1) := by decide +kernel
set_option maxRecDepth 20000 in
theorem ggX12_colonel_X12_isTold : GoodIn wsX12_colonel wsX12_isTold := goodIn_r _ [7, 1, 8, 9, 6, 10, 32, 33, 34, 35, 36, 37, 38, 39, 40, 41, 42, 43, 44, 45, 46, 47, 48, 49, 50, 51, 52, 53, 54, 55, 56, 57, 58, 59, 60, 61, 62, 63, 64, 65, 66, 67, 68, 69, 70, 71, 72, 73, 74, 75, 76, 77, 78, 79, 80, 81, 82, 83] (by decide +kernel) (by decide +kernel)
set_option maxRecDepth 20000 in
theorem gX12_colonel_X12_isTold : GoodIn wsX12_colonel (wsV RX12 109 RX12 yX12_isTold wsX12_isTold) := goodIn_app (goodIn_of _ (by decide +kernel)) ggX12_colonel_X12_isTold
set_option maxRecDepth 20000 in
theorem ggX12_colonel_X12_in : GoodIn wsX12_colonel wsX12_in := goodIn_r _ [10] (by decide +kernel) (by decide +kernel)
set_option maxRecDepth 20000 in
theorem gX12_colonel_X12_in : GoodIn wsX12_colonel (va_wsS RX12 105 yX12_in wsX12_in) := goodIn_app (goodIn_of _ (by decide +kernel)) ggX12_colonel_X12_in
set_option maxRecDepth 20000 in
theorem ggX12_colonel_X12_hereSet : GoodIn wsX12_colonel wsX12_hereSet := goodIn_r _ [14, 15, 16, 17, 6, 18, 1, 3, 4, 5, 7, 8, 9, 10, 32, 33, 34, 35, 36, 37, 38, 39, 40, 41, 42, 43, 44, 45, 46, 47, 48, 49, 50, 51, 52, 53, 54, 55, 56, 57, 58, 59, 60, 61, 62, 63, 64, 65, 66, 67, 68, 69, 70, 71, 72, 73, 74, 75, 76, 77, 78, 79, 80, 81, 82, 83] (by decide +kernel) (by decide +kernel)
set_option maxRecDepth 20000 in
theorem gX12_colonel_X12_hereSet : GoodIn wsX12_colonel (wsV RX12 234 RX12 yX12_hereSet wsX12_hereSet) := goodIn_app (goodIn_of _ (by decide +kernel)) ggX12_colonel_X12_hereSet
set_option maxRecDepth 20000 in
theorem ggX12_colonel_X12_bits : GoodIn wsX12_colonel wsX12_bits := goodIn_r _ [21] (by decide +kernel) (by decide +kernel)
set_option maxRecDepth 20000 in
theorem gX12_colonel_X12_bits : GoodIn wsX12_colonel (va_wsS RX12 237 yX12_bits wsX12_bits) := goodIn_app (goodIn_of _ (by decide +kernel)) ggX12_colonel_X12_bits
set_option maxRecDepth 20000 in
theorem ggX12_colonel_X12_sumOf : GoodIn wsX12_colonel wsX12_sumOf := goodIn_r _ [25, 1, 26, 27, 6, 28, 32, 33, 34, 35, 36, 37, 38, 39, 40, 41, 42, 43, 44, 45, 46, 47, 48, 49, 50, 51, 52, 53, 54, 55, 56, 57, 58, 59, 60, 61, 62, 63, 64, 65, 66, 67, 68, 69, 70, 71, 72, 73, 74, 75, 76, 77, 78, 79, 80, 81, 82, 83] (by decide +kernel) (by decide +kernel)
set_option maxRecDepth 20000 in
theorem gX12_colonel_X12_sumOf : GoodIn wsX12_colonel (wsV RX12 311 RX12 yX12_sumOf wsX12_sumOf) := goodIn_app (goodIn_of _ (by decide +kernel)) ggX12_colonel_X12_sumOf
set_option maxRecDepth 20000 in
theorem ggX12_colonel_X12_size : GoodIn wsX12_colonel wsX12_size := goodIn_r _ [31] (by decide +kernel) (by decide +kernel)
set_option maxRecDepth 20000 in
theorem gX12_colonel_X12_size : GoodIn wsX12_colonel (va_wsS RX12 314 yX12_size wsX12_size) := goodIn_app (goodIn_of _ (by decide +kernel)) ggX12_colonel_X12_size
theorem dX12_colonel_0 : decode cX12_colonel 0 = .ok (.aload_n 0, 1) := by decide +kernel
theorem dX12_colonel_1 : decode cX12_colonel 1 = .ok (.iload_n 1, 1) := by decide +kernel
theorem dX12_colonel_2 : decode cX12_colonel 2 = .ok (.invokevirtual 109, 3) := by decide +kernel
theorem dX12_colonel_5 : decode cX12_colonel 5 = .ok (.ifCond .eq 13, 3) := by decide +kernel
theorem dX12_colonel_8 : decode cX12_colonel 8 = .ok (.iload_n 2, 1) := by decide +kernel
theorem dX12_colonel_9 : decode cX12_colonel 9 = .ok (.iconst 1, 1) := by decide +kernel
theorem dX12_colonel_10 : decode cX12_colonel 10 = .ok (.bipush 15, 2) := by decide +kernel
theorem dX12_colonel_12 : decode cX12_colonel 12 = .ok (.invokestatic 105, 3) := by decide +kernel
theorem dX12_colonel_15 : decode cX12_colonel 15 = .ok (.ifCond .ne 5, 3) := by decide +kernel
theorem dX12_colonel_18 : decode cX12_colonel 18 = .ok (.iconst (-1), 1) := by decide +kernel
theorem dX12_colonel_19 : decode cX12_colonel 19 = .ok (.ireturn, 1) := by decide +kernel
theorem dX12_colonel_20 : decode cX12_colonel 20 = .ok (.aload_n 0, 1) := by decide +kernel
theorem dX12_colonel_21 : decode cX12_colonel 21 = .ok (.invokevirtual 234, 3) := by decide +kernel
theorem dX12_colonel_24 : decode cX12_colonel 24 = .ok (.iconst 1, 1) := by decide +kernel
theorem dX12_colonel_25 : decode cX12_colonel 25 = .ok (.iload_n 1, 1) := by decide +kernel
theorem dX12_colonel_26 : decode cX12_colonel 26 = .ok (.ishl, 1) := by decide +kernel
theorem dX12_colonel_27 : decode cX12_colonel 27 = .ok (.iconst (-1), 1) := by decide +kernel
theorem dX12_colonel_28 : decode cX12_colonel 28 = .ok (.ixor, 1) := by decide +kernel
theorem dX12_colonel_29 : decode cX12_colonel 29 = .ok (.iand, 1) := by decide +kernel
theorem dX12_colonel_30 : decode cX12_colonel 30 = .ok (.istore_n 3, 1) := by decide +kernel
theorem dX12_colonel_31 : decode cX12_colonel 31 = .ok (.iconst 0, 1) := by decide +kernel
theorem dX12_colonel_32 : decode cX12_colonel 32 = .ok (.istore 4, 2) := by decide +kernel
theorem dX12_colonel_34 : decode cX12_colonel 34 = .ok (.iconst 0, 1) := by decide +kernel
theorem dX12_colonel_35 : decode cX12_colonel 35 = .ok (.istore 5, 2) := by decide +kernel
theorem dX12_colonel_37 : decode cX12_colonel 37 = .ok (.iload 5, 2) := by decide +kernel
theorem dX12_colonel_39 : decode cX12_colonel 39 = .ok (.iload_n 3, 1) := by decide +kernel
theorem dX12_colonel_40 : decode cX12_colonel 40 = .ok (.if_icmp .gt 59, 3) := by decide +kernel
theorem dX12_colonel_43 : decode cX12_colonel 43 = .ok (.iload 5, 2) := by decide +kernel
theorem dX12_colonel_45 : decode cX12_colonel 45 = .ok (.iload_n 3, 1) := by decide +kernel
theorem dX12_colonel_46 : decode cX12_colonel 46 = .ok (.iconst (-1), 1) := by decide +kernel
theorem dX12_colonel_47 : decode cX12_colonel 47 = .ok (.ixor, 1) := by decide +kernel
theorem dX12_colonel_48 : decode cX12_colonel 48 = .ok (.iand, 1) := by decide +kernel
theorem dX12_colonel_49 : decode cX12_colonel 49 = .ok (.ifCond .ne 44, 3) := by decide +kernel
theorem dX12_colonel_52 : decode cX12_colonel 52 = .ok (.iload 5, 2) := by decide +kernel
theorem dX12_colonel_54 : decode cX12_colonel 54 = .ok (.invokestatic 237, 3) := by decide +kernel
theorem dX12_colonel_57 : decode cX12_colonel 57 = .ok (.iload_n 2, 1) := by decide +kernel
theorem dX12_colonel_58 : decode cX12_colonel 58 = .ok (.if_icmp .ne 35, 3) := by decide +kernel
theorem dX12_colonel_61 : decode cX12_colonel 61 = .ok (.aload_n 0, 1) := by decide +kernel
theorem dX12_colonel_62 : decode cX12_colonel 62 = .ok (.iload 5, 2) := by decide +kernel
theorem dX12_colonel_64 : decode cX12_colonel 64 = .ok (.invokevirtual 311, 3) := by decide +kernel
theorem dX12_colonel_67 : decode cX12_colonel 67 = .ok (.aload_n 0, 1) := by decide +kernel
theorem dX12_colonel_68 : decode cX12_colonel 68 = .ok (.getfield 7, 3) := by decide +kernel
theorem dX12_colonel_71 : decode cX12_colonel 71 = .ok (.bipush 16, 2) := by decide +kernel
theorem dX12_colonel_73 : decode cX12_colonel 73 = .ok (.iload_n 1, 1) := by decide +kernel
theorem dX12_colonel_74 : decode cX12_colonel 74 = .ok (.iadd, 1) := by decide +kernel
theorem dX12_colonel_75 : decode cX12_colonel 75 = .ok (.iaload, 1) := by decide +kernel
theorem dX12_colonel_76 : decode cX12_colonel 76 = .ok (.isub, 1) := by decide +kernel
theorem dX12_colonel_77 : decode cX12_colonel 77 = .ok (.invokestatic 314, 3) := by decide +kernel
theorem dX12_colonel_80 : decode cX12_colonel 80 = .ok (.aload_n 0, 1) := by decide +kernel
theorem dX12_colonel_81 : decode cX12_colonel 81 = .ok (.getfield 116, 3) := by decide +kernel
theorem dX12_colonel_84 : decode cX12_colonel 84 = .ok (.if_icmp .gt 9, 3) := by decide +kernel
theorem dX12_colonel_87 : decode cX12_colonel 87 = .ok (.iload 4, 2) := by decide +kernel
theorem dX12_colonel_89 : decode cX12_colonel 89 = .ok (.iconst 1, 1) := by decide +kernel
theorem dX12_colonel_90 : decode cX12_colonel 90 = .ok (.iadd, 1) := by decide +kernel
theorem dX12_colonel_91 : decode cX12_colonel 91 = .ok (.istore 4, 2) := by decide +kernel
theorem dX12_colonel_93 : decode cX12_colonel 93 = .ok (.iinc 5 1, 3) := by decide +kernel
theorem dX12_colonel_96 : decode cX12_colonel 96 = .ok (.goto (-59), 3) := by decide +kernel
theorem dX12_colonel_99 : decode cX12_colonel 99 = .ok (.iload 4, 2) := by decide +kernel
theorem dX12_colonel_101 : decode cX12_colonel 101 = .ok (.ireturn, 1) := by decide +kernel
set_option maxRecDepth 20000 in
theorem ggX12_partySum_X12_has : GoodIn wsX12_partySum wsX12_has := goodIn_r _ [7] (by decide +kernel) (by decide +kernel)
set_option maxRecDepth 20000 in
theorem gX12_partySum_X12_has : GoodIn wsX12_partySum (va_wsS RX12 308 yX12_has wsX12_has) := goodIn_app (goodIn_of _ (by decide +kernel)) ggX12_partySum_X12_has
theorem dX12_partySum_0 : decode cX12_partySum 0 = .ok (.iconst 0, 1) := by decide +kernel
theorem dX12_partySum_1 : decode cX12_partySum 1 = .ok (.istore_n 2, 1) := by decide +kernel
theorem dX12_partySum_2 : decode cX12_partySum 2 = .ok (.iconst 0, 1) := by decide +kernel
theorem dX12_partySum_3 : decode cX12_partySum 3 = .ok (.istore_n 3, 1) := by decide +kernel
theorem dX12_partySum_4 : decode cX12_partySum 4 = .ok (.iload_n 3, 1) := by decide +kernel
theorem dX12_partySum_5 : decode cX12_partySum 5 = .ok (.aload_n 0, 1) := by decide +kernel
theorem dX12_partySum_6 : decode cX12_partySum 6 = .ok (.getfield 317, 3) := by decide +kernel
theorem dX12_partySum_9 : decode cX12_partySum 9 = .ok (.if_icmp .ge 34, 3) := by decide +kernel
theorem dX12_partySum_12 : decode cX12_partySum 12 = .ok (.iload_n 1, 1) := by decide +kernel
theorem dX12_partySum_13 : decode cX12_partySum 13 = .ok (.iload_n 3, 1) := by decide +kernel
theorem dX12_partySum_14 : decode cX12_partySum 14 = .ok (.invokestatic 308, 3) := by decide +kernel
theorem dX12_partySum_17 : decode cX12_partySum 17 = .ok (.ifCond .eq 20, 3) := by decide +kernel
theorem dX12_partySum_20 : decode cX12_partySum 20 = .ok (.iload_n 2, 1) := by decide +kernel
theorem dX12_partySum_21 : decode cX12_partySum 21 = .ok (.aload_n 0, 1) := by decide +kernel
theorem dX12_partySum_22 : decode cX12_partySum 22 = .ok (.getfield 7, 3) := by decide +kernel
theorem dX12_partySum_25 : decode cX12_partySum 25 = .ok (.bipush 16, 2) := by decide +kernel
theorem dX12_partySum_27 : decode cX12_partySum 27 = .ok (.aload_n 0, 1) := by decide +kernel
theorem dX12_partySum_28 : decode cX12_partySum 28 = .ok (.getfield 80, 3) := by decide +kernel
theorem dX12_partySum_31 : decode cX12_partySum 31 = .ok (.iload_n 3, 1) := by decide +kernel
theorem dX12_partySum_32 : decode cX12_partySum 32 = .ok (.iaload, 1) := by decide +kernel
theorem dX12_partySum_33 : decode cX12_partySum 33 = .ok (.iadd, 1) := by decide +kernel
theorem dX12_partySum_34 : decode cX12_partySum 34 = .ok (.iaload, 1) := by decide +kernel
theorem dX12_partySum_35 : decode cX12_partySum 35 = .ok (.iadd, 1) := by decide +kernel
theorem dX12_partySum_36 : decode cX12_partySum 36 = .ok (.istore_n 2, 1) := by decide +kernel
theorem dX12_partySum_37 : decode cX12_partySum 37 = .ok (.iinc 3 1, 3) := by decide +kernel
theorem dX12_partySum_40 : decode cX12_partySum 40 = .ok (.goto (-36), 3) := by decide +kernel
theorem dX12_partySum_43 : decode cX12_partySum 43 = .ok (.iload_n 2, 1) := by decide +kernel
theorem dX12_partySum_44 : decode cX12_partySum 44 = .ok (.ireturn, 1) := by decide +kernel
set_option maxRecDepth 20000 in
theorem ggX12_canGo_X12_partySum : GoodIn wsX12_canGo wsX12_partySum := goodIn_r _ [8, 9, 1, 2, 10, 11, 7, 12, 16, 17, 18, 19, 20, 21, 22, 23, 24, 25, 26, 27, 28, 29, 30, 31, 32, 33, 34, 35, 36, 37, 38, 39, 40, 41, 42, 43, 44, 45, 46, 47, 48, 49, 50, 51, 52, 53, 54, 55, 56, 57, 58, 59, 60, 61, 62, 63, 64, 65, 66, 67] (by decide +kernel) (by decide +kernel)
set_option maxRecDepth 20000 in
theorem gX12_canGo_X12_partySum : GoodIn wsX12_canGo (wsV RX12 320 RX12 yX12_partySum wsX12_partySum) := goodIn_app (goodIn_of _ (by decide +kernel)) ggX12_canGo_X12_partySum
set_option maxRecDepth 20000 in
theorem ggX12_canGo_X12_size : GoodIn wsX12_canGo wsX12_size := goodIn_r _ [15] (by decide +kernel) (by decide +kernel)
set_option maxRecDepth 20000 in
theorem gX12_canGo_X12_size : GoodIn wsX12_canGo (va_wsS RX12 314 yX12_size wsX12_size) := goodIn_app (goodIn_of _ (by decide +kernel)) ggX12_canGo_X12_size
theorem dX12_canGo_0 : decode cX12_canGo 0 = .ok (.iload_n 2, 1) := by decide +kernel
theorem dX12_canGo_1 : decode cX12_canGo 1 = .ok (.iconst 1, 1) := by decide +kernel
theorem dX12_canGo_2 : decode cX12_canGo 2 = .ok (.iload_n 1, 1) := by decide +kernel
theorem dX12_canGo_3 : decode cX12_canGo 3 = .ok (.ishl, 1) := by decide +kernel
theorem dX12_canGo_4 : decode cX12_canGo 4 = .ok (.iconst (-1), 1) := by decide +kernel
theorem dX12_canGo_5 : decode cX12_canGo 5 = .ok (.ixor, 1) := by decide +kernel
theorem dX12_canGo_6 : decode cX12_canGo 6 = .ok (.iand, 1) := by decide +kernel
theorem dX12_canGo_7 : decode cX12_canGo 7 = .ok (.istore 4, 2) := by decide +kernel
theorem dX12_canGo_9 : decode cX12_canGo 9 = .ok (.aload_n 0, 1) := by decide +kernel
theorem dX12_canGo_10 : decode cX12_canGo 10 = .ok (.getfield 7, 3) := by decide +kernel
theorem dX12_canGo_13 : decode cX12_canGo 13 = .ok (.bipush 16, 2) := by decide +kernel
theorem dX12_canGo_15 : decode cX12_canGo 15 = .ok (.aload_n 0, 1) := by decide +kernel
theorem dX12_canGo_16 : decode cX12_canGo 16 = .ok (.getfield 80, 3) := by decide +kernel
theorem dX12_canGo_19 : decode cX12_canGo 19 = .ok (.iload_n 1, 1) := by decide +kernel
theorem dX12_canGo_20 : decode cX12_canGo 20 = .ok (.iaload, 1) := by decide +kernel
theorem dX12_canGo_21 : decode cX12_canGo 21 = .ok (.iadd, 1) := by decide +kernel
theorem dX12_canGo_22 : decode cX12_canGo 22 = .ok (.iaload, 1) := by decide +kernel
theorem dX12_canGo_23 : decode cX12_canGo 23 = .ok (.istore 5, 2) := by decide +kernel
theorem dX12_canGo_25 : decode cX12_canGo 25 = .ok (.iconst 0, 1) := by decide +kernel
theorem dX12_canGo_26 : decode cX12_canGo 26 = .ok (.istore 6, 2) := by decide +kernel
theorem dX12_canGo_28 : decode cX12_canGo 28 = .ok (.iload 6, 2) := by decide +kernel
theorem dX12_canGo_30 : decode cX12_canGo 30 = .ok (.iload 4, 2) := by decide +kernel
theorem dX12_canGo_32 : decode cX12_canGo 32 = .ok (.if_icmp .gt 61, 3) := by decide +kernel
theorem dX12_canGo_35 : decode cX12_canGo 35 = .ok (.iload 6, 2) := by decide +kernel
theorem dX12_canGo_37 : decode cX12_canGo 37 = .ok (.iload 4, 2) := by decide +kernel
theorem dX12_canGo_39 : decode cX12_canGo 39 = .ok (.iconst (-1), 1) := by decide +kernel
theorem dX12_canGo_40 : decode cX12_canGo 40 = .ok (.ixor, 1) := by decide +kernel
theorem dX12_canGo_41 : decode cX12_canGo 41 = .ok (.iand, 1) := by decide +kernel
theorem dX12_canGo_42 : decode cX12_canGo 42 = .ok (.ifCond .eq 6, 3) := by decide +kernel
theorem dX12_canGo_45 : decode cX12_canGo 45 = .ok (.goto 42, 3) := by decide +kernel
theorem dX12_canGo_48 : decode cX12_canGo 48 = .ok (.aload_n 0, 1) := by decide +kernel
theorem dX12_canGo_49 : decode cX12_canGo 49 = .ok (.iload 6, 2) := by decide +kernel
theorem dX12_canGo_51 : decode cX12_canGo 51 = .ok (.invokevirtual 320, 3) := by decide +kernel
theorem dX12_canGo_54 : decode cX12_canGo 54 = .ok (.iload 5, 2) := by decide +kernel
theorem dX12_canGo_56 : decode cX12_canGo 56 = .ok (.isub, 1) := by decide +kernel
theorem dX12_canGo_57 : decode cX12_canGo 57 = .ok (.istore 7, 2) := by decide +kernel
theorem dX12_canGo_59 : decode cX12_canGo 59 = .ok (.iload 7, 2) := by decide +kernel
theorem dX12_canGo_61 : decode cX12_canGo 61 = .ok (.invokestatic 314, 3) := by decide +kernel
theorem dX12_canGo_64 : decode cX12_canGo 64 = .ok (.aload_n 0, 1) := by decide +kernel
theorem dX12_canGo_65 : decode cX12_canGo 65 = .ok (.getfield 116, 3) := by decide +kernel
theorem dX12_canGo_68 : decode cX12_canGo 68 = .ok (.if_icmp .le 17, 3) := by decide +kernel
theorem dX12_canGo_71 : decode cX12_canGo 71 = .ok (.iload 7, 2) := by decide +kernel
theorem dX12_canGo_73 : decode cX12_canGo 73 = .ok (.iload_n 3, 1) := by decide +kernel
theorem dX12_canGo_74 : decode cX12_canGo 74 = .ok (.iadd, 1) := by decide +kernel
theorem dX12_canGo_75 : decode cX12_canGo 75 = .ok (.invokestatic 314, 3) := by decide +kernel
theorem dX12_canGo_78 : decode cX12_canGo 78 = .ok (.aload_n 0, 1) := by decide +kernel
theorem dX12_canGo_79 : decode cX12_canGo 79 = .ok (.getfield 116, 3) := by decide +kernel
theorem dX12_canGo_82 : decode cX12_canGo 82 = .ok (.if_icmp .gt 5, 3) := by decide +kernel
theorem dX12_canGo_85 : decode cX12_canGo 85 = .ok (.iconst 1, 1) := by decide +kernel
theorem dX12_canGo_86 : decode cX12_canGo 86 = .ok (.ireturn, 1) := by decide +kernel
theorem dX12_canGo_87 : decode cX12_canGo 87 = .ok (.iinc 6 1, 3) := by decide +kernel
theorem dX12_canGo_90 : decode cX12_canGo 90 = .ok (.goto (-62), 3) := by decide +kernel
theorem dX12_canGo_93 : decode cX12_canGo 93 = .ok (.iconst 0, 1) := by decide +kernel
theorem dX12_canGo_94 : decode cX12_canGo 94 = .ok (.ireturn, 1) := by decide +kernel
set_option maxRecDepth 20000 in
theorem ggX12_laysParty_X12_has : GoodIn wsX12_laysParty wsX12_has := goodIn_r _ [6] (by decide +kernel) (by decide +kernel)
set_option maxRecDepth 20000 in
theorem gX12_laysParty_X12_has : GoodIn wsX12_laysParty (va_wsS RX12 308 yX12_has wsX12_has) := goodIn_app (goodIn_of _ (by decide +kernel)) ggX12_laysParty_X12_has
set_option maxRecDepth 20000 in
theorem ggX12_laysParty_X12_canGo : GoodIn wsX12_laysParty wsX12_canGo := goodIn_r _ [10, 11, 12, 13, 14, 15, 16, 5, 17, 1, 3, 4, 6, 18, 19, 20, 24, 25, 26, 27, 28, 29, 30, 31, 32, 33, 34, 35, 36, 37, 38, 39, 40, 41, 42, 43, 44, 45, 46, 47, 48, 49, 50, 51, 52, 53, 54, 55, 56, 57, 58, 59, 60, 61, 62, 63, 64, 65, 66, 67, 68, 69, 70, 71, 72, 73, 74, 75] (by decide +kernel) (by decide +kernel)
set_option maxRecDepth 20000 in
theorem gX12_laysParty_X12_canGo : GoodIn wsX12_laysParty (wsV RX12 323 RX12 yX12_canGo wsX12_canGo) := goodIn_app (goodIn_of _ (by decide +kernel)) ggX12_laysParty_X12_canGo
set_option maxRecDepth 20000 in
theorem ggX12_laysParty_X12_max : GoodIn wsX12_laysParty wsX12_max := goodIn_r _ [23] (by decide +kernel) (by decide +kernel)
set_option maxRecDepth 20000 in
theorem gX12_laysParty_X12_max : GoodIn wsX12_laysParty (va_wsS RX12 252 yX12_max wsX12_max) := goodIn_app (goodIn_of _ (by decide +kernel)) ggX12_laysParty_X12_max
theorem dX12_laysParty_0 : decode cX12_laysParty 0 = .ok (.iconst 0, 1) := by decide +kernel
theorem dX12_laysParty_1 : decode cX12_laysParty 1 = .ok (.istore_n 2, 1) := by decide +kernel
theorem dX12_laysParty_2 : decode cX12_laysParty 2 = .ok (.iload_n 2, 1) := by decide +kernel
theorem dX12_laysParty_3 : decode cX12_laysParty 3 = .ok (.iconst 1, 1) := by decide +kernel
theorem dX12_laysParty_4 : decode cX12_laysParty 4 = .ok (.aload_n 0, 1) := by decide +kernel
theorem dX12_laysParty_5 : decode cX12_laysParty 5 = .ok (.getfield 317, 3) := by decide +kernel
theorem dX12_laysParty_8 : decode cX12_laysParty 8 = .ok (.ishl, 1) := by decide +kernel
theorem dX12_laysParty_9 : decode cX12_laysParty 9 = .ok (.if_icmp .ge 79, 3) := by decide +kernel
theorem dX12_laysParty_12 : decode cX12_laysParty 12 = .ok (.aload_n 0, 1) := by decide +kernel
theorem dX12_laysParty_13 : decode cX12_laysParty 13 = .ok (.getfield 83, 3) := by decide +kernel
theorem dX12_laysParty_16 : decode cX12_laysParty 16 = .ok (.iload_n 2, 1) := by decide +kernel
theorem dX12_laysParty_17 : decode cX12_laysParty 17 = .ok (.iconst 0, 1) := by decide +kernel
theorem dX12_laysParty_18 : decode cX12_laysParty 18 = .ok (.iastore, 1) := by decide +kernel
theorem dX12_laysParty_19 : decode cX12_laysParty 19 = .ok (.iconst 0, 1) := by decide +kernel
theorem dX12_laysParty_20 : decode cX12_laysParty 20 = .ok (.istore_n 3, 1) := by decide +kernel
theorem dX12_laysParty_21 : decode cX12_laysParty 21 = .ok (.iload_n 3, 1) := by decide +kernel
theorem dX12_laysParty_22 : decode cX12_laysParty 22 = .ok (.aload_n 0, 1) := by decide +kernel
theorem dX12_laysParty_23 : decode cX12_laysParty 23 = .ok (.getfield 317, 3) := by decide +kernel
theorem dX12_laysParty_26 : decode cX12_laysParty 26 = .ok (.if_icmp .ge 56, 3) := by decide +kernel
theorem dX12_laysParty_29 : decode cX12_laysParty 29 = .ok (.iload_n 2, 1) := by decide +kernel
theorem dX12_laysParty_30 : decode cX12_laysParty 30 = .ok (.iload_n 3, 1) := by decide +kernel
theorem dX12_laysParty_31 : decode cX12_laysParty 31 = .ok (.invokestatic 308, 3) := by decide +kernel
theorem dX12_laysParty_34 : decode cX12_laysParty 34 = .ok (.ifCond .eq 42, 3) := by decide +kernel
theorem dX12_laysParty_37 : decode cX12_laysParty 37 = .ok (.aload_n 0, 1) := by decide +kernel
theorem dX12_laysParty_38 : decode cX12_laysParty 38 = .ok (.iload_n 3, 1) := by decide +kernel
theorem dX12_laysParty_39 : decode cX12_laysParty 39 = .ok (.iload_n 2, 1) := by decide +kernel
theorem dX12_laysParty_40 : decode cX12_laysParty 40 = .ok (.iload_n 1, 1) := by decide +kernel
theorem dX12_laysParty_41 : decode cX12_laysParty 41 = .ok (.invokevirtual 323, 3) := by decide +kernel
theorem dX12_laysParty_44 : decode cX12_laysParty 44 = .ok (.ifCond .eq 32, 3) := by decide +kernel
theorem dX12_laysParty_47 : decode cX12_laysParty 47 = .ok (.aload_n 0, 1) := by decide +kernel
theorem dX12_laysParty_48 : decode cX12_laysParty 48 = .ok (.getfield 83, 3) := by decide +kernel
theorem dX12_laysParty_51 : decode cX12_laysParty 51 = .ok (.iload_n 2, 1) := by decide +kernel
theorem dX12_laysParty_52 : decode cX12_laysParty 52 = .ok (.aload_n 0, 1) := by decide +kernel
theorem dX12_laysParty_53 : decode cX12_laysParty 53 = .ok (.getfield 83, 3) := by decide +kernel
theorem dX12_laysParty_56 : decode cX12_laysParty 56 = .ok (.iload_n 2, 1) := by decide +kernel
theorem dX12_laysParty_57 : decode cX12_laysParty 57 = .ok (.iaload, 1) := by decide +kernel
theorem dX12_laysParty_58 : decode cX12_laysParty 58 = .ok (.aload_n 0, 1) := by decide +kernel
theorem dX12_laysParty_59 : decode cX12_laysParty 59 = .ok (.getfield 83, 3) := by decide +kernel
theorem dX12_laysParty_62 : decode cX12_laysParty 62 = .ok (.iload_n 2, 1) := by decide +kernel
theorem dX12_laysParty_63 : decode cX12_laysParty 63 = .ok (.iconst 1, 1) := by decide +kernel
theorem dX12_laysParty_64 : decode cX12_laysParty 64 = .ok (.iload_n 3, 1) := by decide +kernel
theorem dX12_laysParty_65 : decode cX12_laysParty 65 = .ok (.ishl, 1) := by decide +kernel
theorem dX12_laysParty_66 : decode cX12_laysParty 66 = .ok (.iconst (-1), 1) := by decide +kernel
theorem dX12_laysParty_67 : decode cX12_laysParty 67 = .ok (.ixor, 1) := by decide +kernel
theorem dX12_laysParty_68 : decode cX12_laysParty 68 = .ok (.iand, 1) := by decide +kernel
theorem dX12_laysParty_69 : decode cX12_laysParty 69 = .ok (.iaload, 1) := by decide +kernel
theorem dX12_laysParty_70 : decode cX12_laysParty 70 = .ok (.iconst 1, 1) := by decide +kernel
theorem dX12_laysParty_71 : decode cX12_laysParty 71 = .ok (.iadd, 1) := by decide +kernel
theorem dX12_laysParty_72 : decode cX12_laysParty 72 = .ok (.invokestatic 252, 3) := by decide +kernel
theorem dX12_laysParty_75 : decode cX12_laysParty 75 = .ok (.iastore, 1) := by decide +kernel
theorem dX12_laysParty_76 : decode cX12_laysParty 76 = .ok (.iinc 3 1, 3) := by decide +kernel
theorem dX12_laysParty_79 : decode cX12_laysParty 79 = .ok (.goto (-58), 3) := by decide +kernel
theorem dX12_laysParty_82 : decode cX12_laysParty 82 = .ok (.iinc 2 1, 3) := by decide +kernel
theorem dX12_laysParty_85 : decode cX12_laysParty 85 = .ok (.goto (-83), 3) := by decide +kernel
theorem dX12_laysParty_88 : decode cX12_laysParty 88 = .ok (.return_, 1) := by decide +kernel
set_option maxRecDepth 20000 in
theorem ggX12_goesAt_X12_has : GoodIn wsX12_goesAt wsX12_has := goodIn_r _ [7] (by decide +kernel) (by decide +kernel)
set_option maxRecDepth 20000 in
theorem gX12_goesAt_X12_has : GoodIn wsX12_goesAt (va_wsS RX12 308 yX12_has wsX12_has) := goodIn_app (goodIn_of _ (by decide +kernel)) ggX12_goesAt_X12_has
set_option maxRecDepth 20000 in
theorem ggX12_goesAt_X12_canGo : GoodIn wsX12_goesAt wsX12_canGo := goodIn_r _ [11, 12, 3, 13, 14, 15, 16, 6, 17, 1, 4, 5, 7, 18, 19, 20, 21, 22, 23, 24, 25, 26, 27, 28, 29, 30, 31, 32, 33, 34, 35, 36, 37, 38, 39, 40, 41, 42, 43, 44, 45, 46, 47, 48, 49, 50, 51, 52, 53, 54, 55, 56, 57, 58, 59, 60, 61, 62, 63, 64, 65, 66, 67, 68, 69, 70, 71, 72] (by decide +kernel) (by decide +kernel)
set_option maxRecDepth 20000 in
theorem gX12_goesAt_X12_canGo : GoodIn wsX12_goesAt (wsV RX12 323 RX12 yX12_canGo wsX12_canGo) := goodIn_app (goodIn_of _ (by decide +kernel)) ggX12_goesAt_X12_canGo
theorem dX12_goesAt_0 : decode cX12_goesAt 0 = .ok (.iconst 1, 1) := by decide +kernel
theorem dX12_goesAt_1 : decode cX12_goesAt 1 = .ok (.aload_n 0, 1) := by decide +kernel
theorem dX12_goesAt_2 : decode cX12_goesAt 2 = .ok (.getfield 317, 3) := by decide +kernel
theorem dX12_goesAt_5 : decode cX12_goesAt 5 = .ok (.ishl, 1) := by decide +kernel
theorem dX12_goesAt_6 : decode cX12_goesAt 6 = .ok (.iconst 1, 1) := by decide +kernel
theorem dX12_goesAt_7 : decode cX12_goesAt 7 = .ok (.isub, 1) := by decide +kernel
theorem dX12_goesAt_8 : decode cX12_goesAt 8 = .ok (.istore_n 3, 1) := by decide +kernel
theorem dX12_goesAt_9 : decode cX12_goesAt 9 = .ok (.iconst (-1), 1) := by decide +kernel
theorem dX12_goesAt_10 : decode cX12_goesAt 10 = .ok (.istore 4, 2) := by decide +kernel
theorem dX12_goesAt_12 : decode cX12_goesAt 12 = .ok (.iconst 0, 1) := by decide +kernel
theorem dX12_goesAt_13 : decode cX12_goesAt 13 = .ok (.istore 5, 2) := by decide +kernel
theorem dX12_goesAt_15 : decode cX12_goesAt 15 = .ok (.iload 5, 2) := by decide +kernel
theorem dX12_goesAt_17 : decode cX12_goesAt 17 = .ok (.iload_n 1, 1) := by decide +kernel
theorem dX12_goesAt_18 : decode cX12_goesAt 18 = .ok (.if_icmp .gt 83, 3) := by decide +kernel
theorem dX12_goesAt_21 : decode cX12_goesAt 21 = .ok (.iconst 0, 1) := by decide +kernel
theorem dX12_goesAt_22 : decode cX12_goesAt 22 = .ok (.istore 6, 2) := by decide +kernel
theorem dX12_goesAt_24 : decode cX12_goesAt 24 = .ok (.iload_n 3, 1) := by decide +kernel
theorem dX12_goesAt_25 : decode cX12_goesAt 25 = .ok (.iload 6, 2) := by decide +kernel
theorem dX12_goesAt_27 : decode cX12_goesAt 27 = .ok (.invokestatic 308, 3) := by decide +kernel
theorem dX12_goesAt_30 : decode cX12_goesAt 30 = .ok (.ifCond .eq 38, 3) := by decide +kernel
theorem dX12_goesAt_33 : decode cX12_goesAt 33 = .ok (.aload_n 0, 1) := by decide +kernel
theorem dX12_goesAt_34 : decode cX12_goesAt 34 = .ok (.getfield 83, 3) := by decide +kernel
theorem dX12_goesAt_37 : decode cX12_goesAt 37 = .ok (.iload_n 3, 1) := by decide +kernel
theorem dX12_goesAt_38 : decode cX12_goesAt 38 = .ok (.iconst 1, 1) := by decide +kernel
theorem dX12_goesAt_39 : decode cX12_goesAt 39 = .ok (.iload 6, 2) := by decide +kernel
theorem dX12_goesAt_41 : decode cX12_goesAt 41 = .ok (.ishl, 1) := by decide +kernel
theorem dX12_goesAt_42 : decode cX12_goesAt 42 = .ok (.iconst (-1), 1) := by decide +kernel
theorem dX12_goesAt_43 : decode cX12_goesAt 43 = .ok (.ixor, 1) := by decide +kernel
theorem dX12_goesAt_44 : decode cX12_goesAt 44 = .ok (.iand, 1) := by decide +kernel
theorem dX12_goesAt_45 : decode cX12_goesAt 45 = .ok (.iaload, 1) := by decide +kernel
theorem dX12_goesAt_46 : decode cX12_goesAt 46 = .ok (.iconst 1, 1) := by decide +kernel
theorem dX12_goesAt_47 : decode cX12_goesAt 47 = .ok (.iadd, 1) := by decide +kernel
theorem dX12_goesAt_48 : decode cX12_goesAt 48 = .ok (.aload_n 0, 1) := by decide +kernel
theorem dX12_goesAt_49 : decode cX12_goesAt 49 = .ok (.getfield 83, 3) := by decide +kernel
theorem dX12_goesAt_52 : decode cX12_goesAt 52 = .ok (.iload_n 3, 1) := by decide +kernel
theorem dX12_goesAt_53 : decode cX12_goesAt 53 = .ok (.iaload, 1) := by decide +kernel
theorem dX12_goesAt_54 : decode cX12_goesAt 54 = .ok (.if_icmp .ne 14, 3) := by decide +kernel
theorem dX12_goesAt_57 : decode cX12_goesAt 57 = .ok (.aload_n 0, 1) := by decide +kernel
theorem dX12_goesAt_58 : decode cX12_goesAt 58 = .ok (.iload 6, 2) := by decide +kernel
theorem dX12_goesAt_60 : decode cX12_goesAt 60 = .ok (.iload_n 3, 1) := by decide +kernel
theorem dX12_goesAt_61 : decode cX12_goesAt 61 = .ok (.iload_n 2, 1) := by decide +kernel
theorem dX12_goesAt_62 : decode cX12_goesAt 62 = .ok (.invokevirtual 323, 3) := by decide +kernel
theorem dX12_goesAt_65 : decode cX12_goesAt 65 = .ok (.ifCond .ne 12, 3) := by decide +kernel
theorem dX12_goesAt_68 : decode cX12_goesAt 68 = .ok (.iload 6, 2) := by decide +kernel
theorem dX12_goesAt_70 : decode cX12_goesAt 70 = .ok (.iconst 1, 1) := by decide +kernel
theorem dX12_goesAt_71 : decode cX12_goesAt 71 = .ok (.iadd, 1) := by decide +kernel
theorem dX12_goesAt_72 : decode cX12_goesAt 72 = .ok (.istore 6, 2) := by decide +kernel
theorem dX12_goesAt_74 : decode cX12_goesAt 74 = .ok (.goto (-50), 3) := by decide +kernel
theorem dX12_goesAt_77 : decode cX12_goesAt 77 = .ok (.aload_n 0, 1) := by decide +kernel
theorem dX12_goesAt_78 : decode cX12_goesAt 78 = .ok (.getfield 80, 3) := by decide +kernel
theorem dX12_goesAt_81 : decode cX12_goesAt 81 = .ok (.iload 6, 2) := by decide +kernel
theorem dX12_goesAt_83 : decode cX12_goesAt 83 = .ok (.iaload, 1) := by decide +kernel
theorem dX12_goesAt_84 : decode cX12_goesAt 84 = .ok (.istore 4, 2) := by decide +kernel
theorem dX12_goesAt_86 : decode cX12_goesAt 86 = .ok (.iload_n 3, 1) := by decide +kernel
theorem dX12_goesAt_87 : decode cX12_goesAt 87 = .ok (.iconst 1, 1) := by decide +kernel
theorem dX12_goesAt_88 : decode cX12_goesAt 88 = .ok (.iload 6, 2) := by decide +kernel
theorem dX12_goesAt_90 : decode cX12_goesAt 90 = .ok (.ishl, 1) := by decide +kernel
theorem dX12_goesAt_91 : decode cX12_goesAt 91 = .ok (.iconst (-1), 1) := by decide +kernel
theorem dX12_goesAt_92 : decode cX12_goesAt 92 = .ok (.ixor, 1) := by decide +kernel
theorem dX12_goesAt_93 : decode cX12_goesAt 93 = .ok (.iand, 1) := by decide +kernel
theorem dX12_goesAt_94 : decode cX12_goesAt 94 = .ok (.istore_n 3, 1) := by decide +kernel
theorem dX12_goesAt_95 : decode cX12_goesAt 95 = .ok (.iinc 5 1, 3) := by decide +kernel
theorem dX12_goesAt_98 : decode cX12_goesAt 98 = .ok (.goto (-83), 3) := by decide +kernel
theorem dX12_goesAt_101 : decode cX12_goesAt 101 = .ok (.iload 4, 2) := by decide +kernel
theorem dX12_goesAt_103 : decode cX12_goesAt 103 = .ok (.ireturn, 1) := by decide +kernel
set_option maxRecDepth 20000 in
theorem ggX12_party_X12_in : GoodIn wsX12_party wsX12_in := goodIn_r _ [8] (by decide +kernel) (by decide +kernel)
set_option maxRecDepth 20000 in
theorem gX12_party_X12_in : GoodIn wsX12_party (va_wsS RX12 105 yX12_in wsX12_in) := goodIn_app (goodIn_of _ (by decide +kernel)) ggX12_party_X12_in
set_option maxRecDepth 20000 in
theorem ggX12_party_X12_bits : GoodIn wsX12_party wsX12_bits := goodIn_r _ [11] (by decide +kernel) (by decide +kernel)
set_option maxRecDepth 20000 in
theorem gX12_party_X12_bits : GoodIn wsX12_party (va_wsS RX12 237 yX12_bits wsX12_bits) := goodIn_app (goodIn_of _ (by decide +kernel)) ggX12_party_X12_bits
set_option maxRecDepth 20000 in
theorem ggX12_party_X12_hereSet : GoodIn wsX12_party wsX12_hereSet := goodIn_r _ [15, 16, 17, 18, 7, 19, 20, 21, 22, 23, 24, 5, 6, 8, 51, 52, 53, 54, 55, 56, 57, 58, 59, 60, 61, 62, 63, 64, 65, 66, 67, 68, 69, 70, 71, 72, 73, 74, 75, 76, 77, 78, 79, 80, 81, 82, 83, 84, 85, 86, 87, 88, 89, 90, 91, 92, 93, 94, 95, 96, 97, 98, 99, 100, 101, 102] (by decide +kernel) (by decide +kernel)
set_option maxRecDepth 20000 in
theorem gX12_party_X12_hereSet : GoodIn wsX12_party (wsV RX12 234 RX12 yX12_hereSet wsX12_hereSet) := goodIn_app (goodIn_of _ (by decide +kernel)) ggX12_party_X12_hereSet
set_option maxRecDepth 20000 in
theorem ggX12_party_X12_has : GoodIn wsX12_party wsX12_has := goodIn_r _ [27] (by decide +kernel) (by decide +kernel)
set_option maxRecDepth 20000 in
theorem gX12_party_X12_has : GoodIn wsX12_party (va_wsS RX12 308 yX12_has wsX12_has) := goodIn_app (goodIn_of _ (by decide +kernel)) ggX12_party_X12_has
set_option maxRecDepth 20000 in
theorem ggX12_party_X12_laysParty : GoodIn wsX12_party wsX12_laysParty := goodIn_r _ [31, 2, 4, 25, 26, 7, 27, 32, 33, 34, 35, 20, 3, 36, 37, 38, 39, 40, 41, 42, 43, 44, 45, 46, 51, 52, 53, 54, 55, 56, 57, 58, 59, 60, 61, 62, 63, 64, 65, 66, 67, 68, 69, 70, 71, 72, 73, 74, 75, 76, 77, 78, 79, 80, 81, 82, 83, 84, 85, 86, 87, 88, 89, 90, 91, 92, 93, 94, 95, 96, 97, 98, 99, 100, 101, 102] (by decide +kernel) (by decide +kernel)
set_option maxRecDepth 20000 in
theorem gX12_party_X12_laysParty : GoodIn wsX12_party (wsV RX12 327 RX12 yX12_laysParty wsX12_laysParty) := goodIn_app (goodIn_of _ (by decide +kernel)) ggX12_party_X12_laysParty
set_option maxRecDepth 20000 in
theorem ggX12_party_X12_goesAt : GoodIn wsX12_party wsX12_goesAt := goodIn_r _ [50, 2, 4, 3, 25, 26, 7, 27, 32, 33, 34, 35, 20, 36, 37, 38, 39, 40, 41, 42, 43, 51, 52, 53, 54, 55, 56, 57, 58, 59, 60, 61, 62, 63, 64, 65, 66, 67, 68, 69, 70, 71, 72, 73, 74, 75, 76, 77, 78, 79, 80, 81, 82, 83, 84, 85, 86, 87, 88, 89, 90, 91, 92, 93, 94, 95, 96, 97, 98, 99, 100, 101, 102] (by decide +kernel) (by decide +kernel)
set_option maxRecDepth 20000 in
theorem gX12_party_X12_goesAt : GoodIn wsX12_party (wsV RX12 330 RX12 yX12_goesAt wsX12_goesAt) := goodIn_app (goodIn_of _ (by decide +kernel)) ggX12_party_X12_goesAt
theorem dX12_party_0 : decode cX12_party 0 = .ok (.iload_n 1, 1) := by decide +kernel
theorem dX12_party_1 : decode cX12_party 1 = .ok (.iconst 1, 1) := by decide +kernel
theorem dX12_party_2 : decode cX12_party 2 = .ok (.ldc_w 326, 3) := by decide +kernel
theorem dX12_party_5 : decode cX12_party 5 = .ok (.invokestatic 105, 3) := by decide +kernel
theorem dX12_party_8 : decode cX12_party 8 = .ok (.ifCond .eq 39, 3) := by decide +kernel
theorem dX12_party_11 : decode cX12_party 11 = .ok (.iload_n 1, 1) := by decide +kernel
theorem dX12_party_12 : decode cX12_party 12 = .ok (.invokestatic 237, 3) := by decide +kernel
theorem dX12_party_15 : decode cX12_party 15 = .ok (.bipush 8, 2) := by decide +kernel
theorem dX12_party_17 : decode cX12_party 17 = .ok (.if_icmp .gt 30, 3) := by decide +kernel
theorem dX12_party_20 : decode cX12_party 20 = .ok (.iload_n 2, 1) := by decide +kernel
theorem dX12_party_21 : decode cX12_party 21 = .ok (.iconst 0, 1) := by decide +kernel
theorem dX12_party_22 : decode cX12_party 22 = .ok (.sipush 999, 3) := by decide +kernel
theorem dX12_party_25 : decode cX12_party 25 = .ok (.invokestatic 105, 3) := by decide +kernel
theorem dX12_party_28 : decode cX12_party 28 = .ok (.ifCond .eq 19, 3) := by decide +kernel
theorem dX12_party_31 : decode cX12_party 31 = .ok (.iload_n 3, 1) := by decide +kernel
theorem dX12_party_32 : decode cX12_party 32 = .ok (.iconst 0, 1) := by decide +kernel
theorem dX12_party_33 : decode cX12_party 33 = .ok (.bipush 7, 2) := by decide +kernel
theorem dX12_party_35 : decode cX12_party 35 = .ok (.invokestatic 105, 3) := by decide +kernel
theorem dX12_party_38 : decode cX12_party 38 = .ok (.ifCond .ne 11, 3) := by decide +kernel
theorem dX12_party_41 : decode cX12_party 41 = .ok (.iload_n 3, 1) := by decide +kernel
theorem dX12_party_42 : decode cX12_party 42 = .ok (.bipush 100, 2) := by decide +kernel
theorem dX12_party_44 : decode cX12_party 44 = .ok (.if_icmp .eq 5, 3) := by decide +kernel
theorem dX12_party_47 : decode cX12_party 47 = .ok (.iconst (-1), 1) := by decide +kernel
theorem dX12_party_48 : decode cX12_party 48 = .ok (.ireturn, 1) := by decide +kernel
theorem dX12_party_49 : decode cX12_party 49 = .ok (.iload_n 1, 1) := by decide +kernel
theorem dX12_party_50 : decode cX12_party 50 = .ok (.aload_n 0, 1) := by decide +kernel
theorem dX12_party_51 : decode cX12_party 51 = .ok (.invokevirtual 234, 3) := by decide +kernel
theorem dX12_party_54 : decode cX12_party 54 = .ok (.iconst (-1), 1) := by decide +kernel
theorem dX12_party_55 : decode cX12_party 55 = .ok (.ixor, 1) := by decide +kernel
theorem dX12_party_56 : decode cX12_party 56 = .ok (.iand, 1) := by decide +kernel
theorem dX12_party_57 : decode cX12_party 57 = .ok (.ifCond .eq 6, 3) := by decide +kernel
theorem dX12_party_60 : decode cX12_party 60 = .ok (.bipush (-2), 2) := by decide +kernel
theorem dX12_party_62 : decode cX12_party 62 = .ok (.ireturn, 1) := by decide +kernel
theorem dX12_party_63 : decode cX12_party 63 = .ok (.aload_n 0, 1) := by decide +kernel
theorem dX12_party_64 : decode cX12_party 64 = .ok (.iconst 0, 1) := by decide +kernel
theorem dX12_party_65 : decode cX12_party 65 = .ok (.putfield 317, 3) := by decide +kernel
theorem dX12_party_68 : decode cX12_party 68 = .ok (.iconst 0, 1) := by decide +kernel
theorem dX12_party_69 : decode cX12_party 69 = .ok (.istore 4, 2) := by decide +kernel
theorem dX12_party_71 : decode cX12_party 71 = .ok (.iload 4, 2) := by decide +kernel
theorem dX12_party_73 : decode cX12_party 73 = .ok (.bipush 16, 2) := by decide +kernel
theorem dX12_party_75 : decode cX12_party 75 = .ok (.if_icmp .ge 42, 3) := by decide +kernel
theorem dX12_party_78 : decode cX12_party 78 = .ok (.iload_n 1, 1) := by decide +kernel
theorem dX12_party_79 : decode cX12_party 79 = .ok (.iload 4, 2) := by decide +kernel
theorem dX12_party_81 : decode cX12_party 81 = .ok (.invokestatic 308, 3) := by decide +kernel
theorem dX12_party_84 : decode cX12_party 84 = .ok (.ifCond .ne 6, 3) := by decide +kernel
theorem dX12_party_87 : decode cX12_party 87 = .ok (.goto 24, 3) := by decide +kernel
theorem dX12_party_90 : decode cX12_party 90 = .ok (.aload_n 0, 1) := by decide +kernel
theorem dX12_party_91 : decode cX12_party 91 = .ok (.getfield 80, 3) := by decide +kernel
theorem dX12_party_94 : decode cX12_party 94 = .ok (.aload_n 0, 1) := by decide +kernel
theorem dX12_party_95 : decode cX12_party 95 = .ok (.getfield 317, 3) := by decide +kernel
theorem dX12_party_98 : decode cX12_party 98 = .ok (.iload 4, 2) := by decide +kernel
theorem dX12_party_100 : decode cX12_party 100 = .ok (.iastore, 1) := by decide +kernel
theorem dX12_party_101 : decode cX12_party 101 = .ok (.aload_n 0, 1) := by decide +kernel
theorem dX12_party_102 : decode cX12_party 102 = .ok (.aload_n 0, 1) := by decide +kernel
theorem dX12_party_103 : decode cX12_party 103 = .ok (.getfield 317, 3) := by decide +kernel
theorem dX12_party_106 : decode cX12_party 106 = .ok (.iconst 1, 1) := by decide +kernel
theorem dX12_party_107 : decode cX12_party 107 = .ok (.iadd, 1) := by decide +kernel
theorem dX12_party_108 : decode cX12_party 108 = .ok (.putfield 317, 3) := by decide +kernel
theorem dX12_party_111 : decode cX12_party 111 = .ok (.iinc 4 1, 3) := by decide +kernel
theorem dX12_party_114 : decode cX12_party 114 = .ok (.goto (-43), 3) := by decide +kernel
theorem dX12_party_117 : decode cX12_party 117 = .ok (.aload_n 0, 1) := by decide +kernel
theorem dX12_party_118 : decode cX12_party 118 = .ok (.iload_n 2, 1) := by decide +kernel
theorem dX12_party_119 : decode cX12_party 119 = .ok (.invokevirtual 327, 3) := by decide +kernel
theorem dX12_party_122 : decode cX12_party 122 = .ok (.aload_n 0, 1) := by decide +kernel
theorem dX12_party_123 : decode cX12_party 123 = .ok (.getfield 83, 3) := by decide +kernel
theorem dX12_party_126 : decode cX12_party 126 = .ok (.iconst 1, 1) := by decide +kernel
theorem dX12_party_127 : decode cX12_party 127 = .ok (.aload_n 0, 1) := by decide +kernel
theorem dX12_party_128 : decode cX12_party 128 = .ok (.getfield 317, 3) := by decide +kernel
theorem dX12_party_131 : decode cX12_party 131 = .ok (.ishl, 1) := by decide +kernel
theorem dX12_party_132 : decode cX12_party 132 = .ok (.iconst 1, 1) := by decide +kernel
theorem dX12_party_133 : decode cX12_party 133 = .ok (.isub, 1) := by decide +kernel
theorem dX12_party_134 : decode cX12_party 134 = .ok (.iaload, 1) := by decide +kernel
theorem dX12_party_135 : decode cX12_party 135 = .ok (.istore 4, 2) := by decide +kernel
theorem dX12_party_137 : decode cX12_party 137 = .ok (.iload_n 3, 1) := by decide +kernel
theorem dX12_party_138 : decode cX12_party 138 = .ok (.bipush 100, 2) := by decide +kernel
theorem dX12_party_140 : decode cX12_party 140 = .ok (.if_icmp .ne 6, 3) := by decide +kernel
theorem dX12_party_143 : decode cX12_party 143 = .ok (.iload 4, 2) := by decide +kernel
theorem dX12_party_145 : decode cX12_party 145 = .ok (.ireturn, 1) := by decide +kernel
theorem dX12_party_146 : decode cX12_party 146 = .ok (.iload_n 3, 1) := by decide +kernel
theorem dX12_party_147 : decode cX12_party 147 = .ok (.iload 4, 2) := by decide +kernel
theorem dX12_party_149 : decode cX12_party 149 = .ok (.if_icmp .ge 12, 3) := by decide +kernel
theorem dX12_party_152 : decode cX12_party 152 = .ok (.aload_n 0, 1) := by decide +kernel
theorem dX12_party_153 : decode cX12_party 153 = .ok (.iload_n 3, 1) := by decide +kernel
theorem dX12_party_154 : decode cX12_party 154 = .ok (.iload_n 2, 1) := by decide +kernel
theorem dX12_party_155 : decode cX12_party 155 = .ok (.invokevirtual 330, 3) := by decide +kernel
theorem dX12_party_158 : decode cX12_party 158 = .ok (.goto 5, 3) := by decide +kernel
theorem dX12_party_161 : decode cX12_party 161 = .ok (.bipush (-4), 2) := by decide +kernel
theorem dX12_party_163 : decode cX12_party 163 = .ok (.ireturn, 1) := by decide +kernel
set_option maxRecDepth 20000 in
theorem ggX12_apartBy_X12_has : GoodIn wsX12_apartBy wsX12_has := goodIn_r _ [7] (by decide +kernel) (by decide +kernel)
set_option maxRecDepth 20000 in
theorem gX12_apartBy_X12_has : GoodIn wsX12_apartBy (va_wsS RX12 308 yX12_has wsX12_has) := goodIn_app (goodIn_of _ (by decide +kernel)) ggX12_apartBy_X12_has
theorem dX12_apartBy_0 : decode cX12_apartBy 0 = .ok (.iconst 0, 1) := by decide +kernel
theorem dX12_apartBy_1 : decode cX12_apartBy 1 = .ok (.istore_n 3, 1) := by decide +kernel
theorem dX12_apartBy_2 : decode cX12_apartBy 2 = .ok (.iconst 0, 1) := by decide +kernel
theorem dX12_apartBy_3 : decode cX12_apartBy 3 = .ok (.istore 4, 2) := by decide +kernel
theorem dX12_apartBy_5 : decode cX12_apartBy 5 = .ok (.iload 4, 2) := by decide +kernel
theorem dX12_apartBy_7 : decode cX12_apartBy 7 = .ok (.bipush 16, 2) := by decide +kernel
theorem dX12_apartBy_9 : decode cX12_apartBy 9 = .ok (.if_icmp .ge 61, 3) := by decide +kernel
theorem dX12_apartBy_12 : decode cX12_apartBy 12 = .ok (.aload_n 0, 1) := by decide +kernel
theorem dX12_apartBy_13 : decode cX12_apartBy 13 = .ok (.getfield 62, 3) := by decide +kernel
theorem dX12_apartBy_16 : decode cX12_apartBy 16 = .ok (.iload_n 1, 1) := by decide +kernel
theorem dX12_apartBy_17 : decode cX12_apartBy 17 = .ok (.iaload, 1) := by decide +kernel
theorem dX12_apartBy_18 : decode cX12_apartBy 18 = .ok (.iload 4, 2) := by decide +kernel
theorem dX12_apartBy_20 : decode cX12_apartBy 20 = .ok (.invokestatic 308, 3) := by decide +kernel
theorem dX12_apartBy_23 : decode cX12_apartBy 23 = .ok (.ifCond .eq 15, 3) := by decide +kernel
theorem dX12_apartBy_26 : decode cX12_apartBy 26 = .ok (.iload_n 3, 1) := by decide +kernel
theorem dX12_apartBy_27 : decode cX12_apartBy 27 = .ok (.aload_n 0, 1) := by decide +kernel
theorem dX12_apartBy_28 : decode cX12_apartBy 28 = .ok (.getfield 7, 3) := by decide +kernel
theorem dX12_apartBy_31 : decode cX12_apartBy 31 = .ok (.iload_n 2, 1) := by decide +kernel
theorem dX12_apartBy_32 : decode cX12_apartBy 32 = .ok (.iload 4, 2) := by decide +kernel
theorem dX12_apartBy_34 : decode cX12_apartBy 34 = .ok (.iadd, 1) := by decide +kernel
theorem dX12_apartBy_35 : decode cX12_apartBy 35 = .ok (.iaload, 1) := by decide +kernel
theorem dX12_apartBy_36 : decode cX12_apartBy 36 = .ok (.iadd, 1) := by decide +kernel
theorem dX12_apartBy_37 : decode cX12_apartBy 37 = .ok (.istore_n 3, 1) := by decide +kernel
theorem dX12_apartBy_38 : decode cX12_apartBy 38 = .ok (.aload_n 0, 1) := by decide +kernel
theorem dX12_apartBy_39 : decode cX12_apartBy 39 = .ok (.getfield 65, 3) := by decide +kernel
theorem dX12_apartBy_42 : decode cX12_apartBy 42 = .ok (.iload_n 1, 1) := by decide +kernel
theorem dX12_apartBy_43 : decode cX12_apartBy 43 = .ok (.iaload, 1) := by decide +kernel
theorem dX12_apartBy_44 : decode cX12_apartBy 44 = .ok (.iload 4, 2) := by decide +kernel
theorem dX12_apartBy_46 : decode cX12_apartBy 46 = .ok (.invokestatic 308, 3) := by decide +kernel
theorem dX12_apartBy_49 : decode cX12_apartBy 49 = .ok (.ifCond .eq 15, 3) := by decide +kernel
theorem dX12_apartBy_52 : decode cX12_apartBy 52 = .ok (.iload_n 3, 1) := by decide +kernel
theorem dX12_apartBy_53 : decode cX12_apartBy 53 = .ok (.aload_n 0, 1) := by decide +kernel
theorem dX12_apartBy_54 : decode cX12_apartBy 54 = .ok (.getfield 7, 3) := by decide +kernel
theorem dX12_apartBy_57 : decode cX12_apartBy 57 = .ok (.iload_n 2, 1) := by decide +kernel
theorem dX12_apartBy_58 : decode cX12_apartBy 58 = .ok (.iload 4, 2) := by decide +kernel
theorem dX12_apartBy_60 : decode cX12_apartBy 60 = .ok (.iadd, 1) := by decide +kernel
theorem dX12_apartBy_61 : decode cX12_apartBy 61 = .ok (.iaload, 1) := by decide +kernel
theorem dX12_apartBy_62 : decode cX12_apartBy 62 = .ok (.isub, 1) := by decide +kernel
theorem dX12_apartBy_63 : decode cX12_apartBy 63 = .ok (.istore_n 3, 1) := by decide +kernel
theorem dX12_apartBy_64 : decode cX12_apartBy 64 = .ok (.iinc 4 1, 3) := by decide +kernel
theorem dX12_apartBy_67 : decode cX12_apartBy 67 = .ok (.goto (-62), 3) := by decide +kernel
theorem dX12_apartBy_70 : decode cX12_apartBy 70 = .ok (.iload_n 3, 1) := by decide +kernel
theorem dX12_apartBy_71 : decode cX12_apartBy 71 = .ok (.ireturn, 1) := by decide +kernel
set_option maxRecDepth 20000 in
theorem ggX12_isSo_X12_apartBy : GoodIn wsX12_isSo wsX12_apartBy := goodIn_r _ [6, 7, 8, 9, 10, 11, 5, 12, 13, 14, 15, 16, 17, 18, 19, 20, 21, 22, 23, 24, 25, 26, 27, 28, 29, 30, 31, 32, 33, 34, 35, 36, 37, 38, 39, 40, 41, 42, 43, 44, 45, 46, 47, 48, 49, 50, 51, 52, 53, 54, 55, 56, 57, 58, 59, 60, 61, 62, 63, 64] (by decide +kernel) (by decide +kernel)
set_option maxRecDepth 20000 in
theorem gX12_isSo_X12_apartBy : GoodIn wsX12_isSo (wsV RX12 333 RX12 yX12_apartBy wsX12_apartBy) := goodIn_app (goodIn_of _ (by decide +kernel)) ggX12_isSo_X12_apartBy
theorem dX12_isSo_0 : decode cX12_isSo 0 = .ok (.aload_n 0, 1) := by decide +kernel
theorem dX12_isSo_1 : decode cX12_isSo 1 = .ok (.iload_n 1, 1) := by decide +kernel
theorem dX12_isSo_2 : decode cX12_isSo 2 = .ok (.iload_n 2, 1) := by decide +kernel
theorem dX12_isSo_3 : decode cX12_isSo 3 = .ok (.invokevirtual 333, 3) := by decide +kernel
theorem dX12_isSo_6 : decode cX12_isSo 6 = .ok (.istore_n 3, 1) := by decide +kernel
theorem dX12_isSo_7 : decode cX12_isSo 7 = .ok (.aload_n 0, 1) := by decide +kernel
theorem dX12_isSo_8 : decode cX12_isSo 8 = .ok (.getfield 68, 3) := by decide +kernel
theorem dX12_isSo_11 : decode cX12_isSo 11 = .ok (.iload_n 1, 1) := by decide +kernel
theorem dX12_isSo_12 : decode cX12_isSo 12 = .ok (.iaload, 1) := by decide +kernel
theorem dX12_isSo_13 : decode cX12_isSo 13 = .ok (.bipush 60, 2) := by decide +kernel
theorem dX12_isSo_15 : decode cX12_isSo 15 = .ok (.if_icmp .ne 15, 3) := by decide +kernel
theorem dX12_isSo_18 : decode cX12_isSo 18 = .ok (.iload_n 3, 1) := by decide +kernel
theorem dX12_isSo_19 : decode cX12_isSo 19 = .ok (.ifCond .ge 7, 3) := by decide +kernel
theorem dX12_isSo_22 : decode cX12_isSo 22 = .ok (.iconst 1, 1) := by decide +kernel
theorem dX12_isSo_23 : decode cX12_isSo 23 = .ok (.goto 39, 3) := by decide +kernel
theorem dX12_isSo_26 : decode cX12_isSo 26 = .ok (.iconst 0, 1) := by decide +kernel
theorem dX12_isSo_27 : decode cX12_isSo 27 = .ok (.goto 35, 3) := by decide +kernel
theorem dX12_isSo_30 : decode cX12_isSo 30 = .ok (.aload_n 0, 1) := by decide +kernel
theorem dX12_isSo_31 : decode cX12_isSo 31 = .ok (.getfield 68, 3) := by decide +kernel
theorem dX12_isSo_34 : decode cX12_isSo 34 = .ok (.iload_n 1, 1) := by decide +kernel
theorem dX12_isSo_35 : decode cX12_isSo 35 = .ok (.iaload, 1) := by decide +kernel
theorem dX12_isSo_36 : decode cX12_isSo 36 = .ok (.bipush 62, 2) := by decide +kernel
theorem dX12_isSo_38 : decode cX12_isSo 38 = .ok (.if_icmp .ne 15, 3) := by decide +kernel
theorem dX12_isSo_41 : decode cX12_isSo 41 = .ok (.iload_n 3, 1) := by decide +kernel
theorem dX12_isSo_42 : decode cX12_isSo 42 = .ok (.ifCond .le 7, 3) := by decide +kernel
theorem dX12_isSo_45 : decode cX12_isSo 45 = .ok (.iconst 1, 1) := by decide +kernel
theorem dX12_isSo_46 : decode cX12_isSo 46 = .ok (.goto 16, 3) := by decide +kernel
theorem dX12_isSo_49 : decode cX12_isSo 49 = .ok (.iconst 0, 1) := by decide +kernel
theorem dX12_isSo_50 : decode cX12_isSo 50 = .ok (.goto 12, 3) := by decide +kernel
theorem dX12_isSo_53 : decode cX12_isSo 53 = .ok (.iload_n 3, 1) := by decide +kernel
theorem dX12_isSo_54 : decode cX12_isSo 54 = .ok (.ifCond .ne 7, 3) := by decide +kernel
theorem dX12_isSo_57 : decode cX12_isSo 57 = .ok (.iconst 1, 1) := by decide +kernel
theorem dX12_isSo_58 : decode cX12_isSo 58 = .ok (.goto 4, 3) := by decide +kernel
theorem dX12_isSo_61 : decode cX12_isSo 61 = .ok (.iconst 0, 1) := by decide +kernel
theorem dX12_isSo_62 : decode cX12_isSo 62 = .ok (.ireturn, 1) := by decide +kernel
set_option maxRecDepth 20000 in
theorem ggX12_areTrue_X12_in : GoodIn wsX12_areTrue wsX12_in := goodIn_r _ [7] (by decide +kernel) (by decide +kernel)
set_option maxRecDepth 20000 in
theorem gX12_areTrue_X12_in : GoodIn wsX12_areTrue (va_wsS RX12 105 yX12_in wsX12_in) := goodIn_app (goodIn_of _ (by decide +kernel)) ggX12_areTrue_X12_in
set_option maxRecDepth 20000 in
theorem ggX12_areTrue_X12_toldSet : GoodIn wsX12_areTrue wsX12_toldSet := goodIn_r _ [11, 12, 13, 14, 6, 15, 16, 4, 5, 7, 29, 30, 31, 32, 33, 34, 35, 36, 37, 38, 39, 40, 41, 42, 43, 44, 45, 46, 47, 48, 49, 50, 51, 52, 53, 54, 55, 56, 57, 58, 59, 60, 61, 62, 63, 64, 65, 66, 67, 68, 69, 70, 71, 72, 73, 74, 75, 76, 77, 78, 79, 80] (by decide +kernel) (by decide +kernel)
set_option maxRecDepth 20000 in
theorem gX12_areTrue_X12_toldSet : GoodIn wsX12_areTrue (wsV RX12 231 RX12 yX12_toldSet wsX12_toldSet) := goodIn_app (goodIn_of _ (by decide +kernel)) ggX12_areTrue_X12_toldSet
set_option maxRecDepth 20000 in
theorem ggX12_areTrue_X12_isSo : GoodIn wsX12_areTrue wsX12_isSo := goodIn_r _ [20, 21, 22, 23, 24, 6, 25, 2, 16, 3, 26, 27, 28, 29, 30, 31, 32, 33, 34, 35, 36, 37, 38, 39, 40, 41, 42, 43, 44, 45, 46, 47, 48, 49, 50, 51, 52, 53, 54, 55, 56, 57, 58, 59, 60, 61, 62, 63, 64, 65, 66, 67, 68, 69, 70, 71, 72, 73, 74, 75, 76, 77, 78, 79, 80] (by decide +kernel) (by decide +kernel)
set_option maxRecDepth 20000 in
theorem gX12_areTrue_X12_isSo : GoodIn wsX12_areTrue (wsV RX12 336 RX12 yX12_isSo wsX12_isSo) := goodIn_app (goodIn_of _ (by decide +kernel)) ggX12_areTrue_X12_isSo
theorem dX12_areTrue_0 : decode cX12_areTrue 0 = .ok (.iload_n 1, 1) := by decide +kernel
theorem dX12_areTrue_1 : decode cX12_areTrue 1 = .ok (.iconst 0, 1) := by decide +kernel
theorem dX12_areTrue_2 : decode cX12_areTrue 2 = .ok (.iconst 3, 1) := by decide +kernel
theorem dX12_areTrue_3 : decode cX12_areTrue 3 = .ok (.invokestatic 105, 3) := by decide +kernel
theorem dX12_areTrue_6 : decode cX12_areTrue 6 = .ok (.ifCond .ne 5, 3) := by decide +kernel
theorem dX12_areTrue_9 : decode cX12_areTrue 9 = .ok (.iconst (-1), 1) := by decide +kernel
theorem dX12_areTrue_10 : decode cX12_areTrue 10 = .ok (.ireturn, 1) := by decide +kernel
theorem dX12_areTrue_11 : decode cX12_areTrue 11 = .ok (.iload_n 1, 1) := by decide +kernel
theorem dX12_areTrue_12 : decode cX12_areTrue 12 = .ok (.iconst 2, 1) := by decide +kernel
theorem dX12_areTrue_13 : decode cX12_areTrue 13 = .ok (.irem, 1) := by decide +kernel
theorem dX12_areTrue_14 : decode cX12_areTrue 14 = .ok (.ifCond .ne 8, 3) := by decide +kernel
theorem dX12_areTrue_17 : decode cX12_areTrue 17 = .ok (.bipush 16, 2) := by decide +kernel
theorem dX12_areTrue_19 : decode cX12_areTrue 19 = .ok (.goto 5, 3) := by decide +kernel
theorem dX12_areTrue_22 : decode cX12_areTrue 22 = .ok (.bipush 32, 2) := by decide +kernel
theorem dX12_areTrue_24 : decode cX12_areTrue 24 = .ok (.istore_n 2, 1) := by decide +kernel
theorem dX12_areTrue_25 : decode cX12_areTrue 25 = .ok (.iconst 0, 1) := by decide +kernel
theorem dX12_areTrue_26 : decode cX12_areTrue 26 = .ok (.istore_n 3, 1) := by decide +kernel
theorem dX12_areTrue_27 : decode cX12_areTrue 27 = .ok (.bipush (-2), 2) := by decide +kernel
theorem dX12_areTrue_29 : decode cX12_areTrue 29 = .ok (.istore 4, 2) := by decide +kernel
theorem dX12_areTrue_31 : decode cX12_areTrue 31 = .ok (.aload_n 0, 1) := by decide +kernel
theorem dX12_areTrue_32 : decode cX12_areTrue 32 = .ok (.getfield 274, 3) := by decide +kernel
theorem dX12_areTrue_35 : decode cX12_areTrue 35 = .ok (.iconst 1, 1) := by decide +kernel
theorem dX12_areTrue_36 : decode cX12_areTrue 36 = .ok (.isub, 1) := by decide +kernel
theorem dX12_areTrue_37 : decode cX12_areTrue 37 = .ok (.istore 5, 2) := by decide +kernel
theorem dX12_areTrue_39 : decode cX12_areTrue 39 = .ok (.iload 5, 2) := by decide +kernel
theorem dX12_areTrue_41 : decode cX12_areTrue 41 = .ok (.ifCond .lt 58, 3) := by decide +kernel
theorem dX12_areTrue_44 : decode cX12_areTrue 44 = .ok (.aload_n 0, 1) := by decide +kernel
theorem dX12_areTrue_45 : decode cX12_areTrue 45 = .ok (.getfield 62, 3) := by decide +kernel
theorem dX12_areTrue_48 : decode cX12_areTrue 48 = .ok (.iload 5, 2) := by decide +kernel
theorem dX12_areTrue_50 : decode cX12_areTrue 50 = .ok (.iaload, 1) := by decide +kernel
theorem dX12_areTrue_51 : decode cX12_areTrue 51 = .ok (.aload_n 0, 1) := by decide +kernel
theorem dX12_areTrue_52 : decode cX12_areTrue 52 = .ok (.getfield 65, 3) := by decide +kernel
theorem dX12_areTrue_55 : decode cX12_areTrue 55 = .ok (.iload 5, 2) := by decide +kernel
theorem dX12_areTrue_57 : decode cX12_areTrue 57 = .ok (.iaload, 1) := by decide +kernel
theorem dX12_areTrue_58 : decode cX12_areTrue 58 = .ok (.ior, 1) := by decide +kernel
theorem dX12_areTrue_59 : decode cX12_areTrue 59 = .ok (.aload_n 0, 1) := by decide +kernel
theorem dX12_areTrue_60 : decode cX12_areTrue 60 = .ok (.invokevirtual 231, 3) := by decide +kernel
theorem dX12_areTrue_63 : decode cX12_areTrue 63 = .ok (.iconst (-1), 1) := by decide +kernel
theorem dX12_areTrue_64 : decode cX12_areTrue 64 = .ok (.ixor, 1) := by decide +kernel
theorem dX12_areTrue_65 : decode cX12_areTrue 65 = .ok (.iand, 1) := by decide +kernel
theorem dX12_areTrue_66 : decode cX12_areTrue 66 = .ok (.ifCond .eq 6, 3) := by decide +kernel
theorem dX12_areTrue_69 : decode cX12_areTrue 69 = .ok (.goto 24, 3) := by decide +kernel
theorem dX12_areTrue_72 : decode cX12_areTrue 72 = .ok (.aload_n 0, 1) := by decide +kernel
theorem dX12_areTrue_73 : decode cX12_areTrue 73 = .ok (.iload 5, 2) := by decide +kernel
theorem dX12_areTrue_75 : decode cX12_areTrue 75 = .ok (.iload_n 2, 1) := by decide +kernel
theorem dX12_areTrue_76 : decode cX12_areTrue 76 = .ok (.invokevirtual 336, 3) := by decide +kernel
theorem dX12_areTrue_79 : decode cX12_areTrue 79 = .ok (.ifCond .eq 10, 3) := by decide +kernel
theorem dX12_areTrue_82 : decode cX12_areTrue 82 = .ok (.iload_n 3, 1) := by decide +kernel
theorem dX12_areTrue_83 : decode cX12_areTrue 83 = .ok (.iconst 1, 1) := by decide +kernel
theorem dX12_areTrue_84 : decode cX12_areTrue 84 = .ok (.iadd, 1) := by decide +kernel
theorem dX12_areTrue_85 : decode cX12_areTrue 85 = .ok (.istore_n 3, 1) := by decide +kernel
theorem dX12_areTrue_86 : decode cX12_areTrue 86 = .ok (.goto 7, 3) := by decide +kernel
theorem dX12_areTrue_89 : decode cX12_areTrue 89 = .ok (.iload 5, 2) := by decide +kernel
theorem dX12_areTrue_91 : decode cX12_areTrue 91 = .ok (.istore 4, 2) := by decide +kernel
theorem dX12_areTrue_93 : decode cX12_areTrue 93 = .ok (.iinc 5 (-1), 3) := by decide +kernel
theorem dX12_areTrue_96 : decode cX12_areTrue 96 = .ok (.goto (-57), 3) := by decide +kernel
theorem dX12_areTrue_99 : decode cX12_areTrue 99 = .ok (.iload_n 1, 1) := by decide +kernel
theorem dX12_areTrue_100 : decode cX12_areTrue 100 = .ok (.iconst 2, 1) := by decide +kernel
theorem dX12_areTrue_101 : decode cX12_areTrue 101 = .ok (.if_icmp .ge 7, 3) := by decide +kernel
theorem dX12_areTrue_104 : decode cX12_areTrue 104 = .ok (.iload_n 3, 1) := by decide +kernel
theorem dX12_areTrue_105 : decode cX12_areTrue 105 = .ok (.goto 5, 3) := by decide +kernel
theorem dX12_areTrue_108 : decode cX12_areTrue 108 = .ok (.iload 4, 2) := by decide +kernel
theorem dX12_areTrue_110 : decode cX12_areTrue 110 = .ok (.ireturn, 1) := by decide +kernel
theorem dX12_named_0 : decode cX12_named 0 = .ok (.iconst 0, 1) := by decide +kernel
theorem dX12_named_1 : decode cX12_named 1 = .ok (.istore_n 1, 1) := by decide +kernel
theorem dX12_named_2 : decode cX12_named 2 = .ok (.iconst 0, 1) := by decide +kernel
theorem dX12_named_3 : decode cX12_named 3 = .ok (.istore_n 2, 1) := by decide +kernel
theorem dX12_named_4 : decode cX12_named 4 = .ok (.iload_n 2, 1) := by decide +kernel
theorem dX12_named_5 : decode cX12_named 5 = .ok (.aload_n 0, 1) := by decide +kernel
theorem dX12_named_6 : decode cX12_named 6 = .ok (.getfield 274, 3) := by decide +kernel
theorem dX12_named_9 : decode cX12_named 9 = .ok (.if_icmp .ge 25, 3) := by decide +kernel
theorem dX12_named_12 : decode cX12_named 12 = .ok (.iload_n 1, 1) := by decide +kernel
theorem dX12_named_13 : decode cX12_named 13 = .ok (.aload_n 0, 1) := by decide +kernel
theorem dX12_named_14 : decode cX12_named 14 = .ok (.getfield 62, 3) := by decide +kernel
theorem dX12_named_17 : decode cX12_named 17 = .ok (.iload_n 2, 1) := by decide +kernel
theorem dX12_named_18 : decode cX12_named 18 = .ok (.iaload, 1) := by decide +kernel
theorem dX12_named_19 : decode cX12_named 19 = .ok (.ior, 1) := by decide +kernel
theorem dX12_named_20 : decode cX12_named 20 = .ok (.aload_n 0, 1) := by decide +kernel
theorem dX12_named_21 : decode cX12_named 21 = .ok (.getfield 65, 3) := by decide +kernel
theorem dX12_named_24 : decode cX12_named 24 = .ok (.iload_n 2, 1) := by decide +kernel
theorem dX12_named_25 : decode cX12_named 25 = .ok (.iaload, 1) := by decide +kernel
theorem dX12_named_26 : decode cX12_named 26 = .ok (.ior, 1) := by decide +kernel
theorem dX12_named_27 : decode cX12_named 27 = .ok (.istore_n 1, 1) := by decide +kernel
theorem dX12_named_28 : decode cX12_named 28 = .ok (.iinc 2 1, 3) := by decide +kernel
theorem dX12_named_31 : decode cX12_named 31 = .ok (.goto (-27), 3) := by decide +kernel
theorem dX12_named_34 : decode cX12_named 34 = .ok (.iload_n 1, 1) := by decide +kernel
theorem dX12_named_35 : decode cX12_named 35 = .ok (.ireturn, 1) := by decide +kernel
set_option maxRecDepth 20000 in
theorem ggX12_fits_X12_bits : GoodIn wsX12_fits wsX12_bits := goodIn_r _ [8] (by decide +kernel) (by decide +kernel)
set_option maxRecDepth 20000 in
theorem gX12_fits_X12_bits : GoodIn wsX12_fits (va_wsS RX12 237 yX12_bits wsX12_bits) := goodIn_app (goodIn_of _ (by decide +kernel)) ggX12_fits_X12_bits
