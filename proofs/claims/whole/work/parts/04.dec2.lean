theorem dX5_makeAccess_247 : decode cX5_makeAccess 247 = .ok (.putfield 33, 3) := by decide +kernel
theorem dX5_makeAccess_250 : decode cX5_makeAccess 250 = .ok (.aload_n 0, 1) := by decide +kernel
theorem dX5_makeAccess_251 : decode cX5_makeAccess 251 = .ok (.dup, 1) := by decide +kernel
theorem dX5_makeAccess_252 : decode cX5_makeAccess 252 = .ok (.getfield 84, 3) := by decide +kernel
theorem dX5_makeAccess_255 : decode cX5_makeAccess 255 = .ok (.aload 5, 2) := by decide +kernel
theorem dX5_makeAccess_257 : decode cX5_makeAccess 257 = .ok (.getfield 154, 3) := by decide +kernel
theorem dX5_makeAccess_260 : decode cX5_makeAccess 260 = .ok (.ior, 1) := by decide +kernel
theorem dX5_makeAccess_261 : decode cX5_makeAccess 261 = .ok (.putfield 84, 3) := by decide +kernel
theorem dX5_makeAccess_264 : decode cX5_makeAccess 264 = .ok (.iload_n 2, 1) := by decide +kernel
theorem dX5_makeAccess_265 : decode cX5_makeAccess 265 = .ok (.iconst 4, 1) := by decide +kernel
theorem dX5_makeAccess_266 : decode cX5_makeAccess 266 = .ok (.if_icmp .ne 9, 3) := by decide +kernel
theorem dX5_makeAccess_269 : decode cX5_makeAccess 269 = .ok (.aload_n 0, 1) := by decide +kernel
theorem dX5_makeAccess_270 : decode cX5_makeAccess 270 = .ok (.iload 4, 2) := by decide +kernel
theorem dX5_makeAccess_272 : decode cX5_makeAccess 272 = .ok (.putfield 78, 3) := by decide +kernel
theorem dX5_makeAccess_275 : decode cX5_makeAccess 275 = .ok (.iload_n 2, 1) := by decide +kernel
theorem dX5_makeAccess_276 : decode cX5_makeAccess 276 = .ok (.iconst 1, 1) := by decide +kernel
theorem dX5_makeAccess_277 : decode cX5_makeAccess 277 = .ok (.if_icmp .eq 19, 3) := by decide +kernel
theorem dX5_makeAccess_280 : decode cX5_makeAccess 280 = .ok (.aload_n 0, 1) := by decide +kernel
theorem dX5_makeAccess_281 : decode cX5_makeAccess 281 = .ok (.aload_n 1, 1) := by decide +kernel
theorem dX5_makeAccess_282 : decode cX5_makeAccess 282 = .ok (.iconst 1, 1) := by decide +kernel
theorem dX5_makeAccess_283 : decode cX5_makeAccess 283 = .ok (.iaload, 1) := by decide +kernel
theorem dX5_makeAccess_284 : decode cX5_makeAccess 284 = .ok (.aload 5, 2) := by decide +kernel
theorem dX5_makeAccess_286 : decode cX5_makeAccess 286 = .ok (.getfield 59, 3) := by decide +kernel
theorem dX5_makeAccess_289 : decode cX5_makeAccess 289 = .ok (.iconst 1, 1) := by decide +kernel
theorem dX5_makeAccess_290 : decode cX5_makeAccess 290 = .ok (.iload 4, 2) := by decide +kernel
theorem dX5_makeAccess_292 : decode cX5_makeAccess 292 = .ok (.ishl, 1) := by decide +kernel
theorem dX5_makeAccess_293 : decode cX5_makeAccess 293 = .ok (.invokevirtual 121, 3) := by decide +kernel
theorem dX5_makeAccess_296 : decode cX5_makeAccess 296 = .ok (.return_, 1) := by decide +kernel
set_option maxRecDepth 20000 in
theorem ggX5_written_X5_valueOf : GoodIn wsX5_written wsX5_valueOf := goodIn_r _ [5, 6, 7, 22, 23, 24, 25, 26, 27, 28, 29, 30, 31, 32, 33, 34, 35] (by decide +kernel) (by decide +kernel)
set_option maxRecDepth 20000 in
theorem gX5_written_X5_valueOf : GoodIn wsX5_written (wsV RX5 114 RX5 yX5_valueOf wsX5_valueOf) := goodIn_app (goodIn_of _ (by decide +kernel)) ggX5_written_X5_valueOf
theorem dX5_written_0 : decode cX5_written 0 = .ok (.aload_n 0, 1) := by decide +kernel
theorem dX5_written_1 : decode cX5_written 1 = .ok (.iload_n 1, 1) := by decide +kernel
theorem dX5_written_2 : decode cX5_written 2 = .ok (.invokevirtual 114, 3) := by decide +kernel
theorem dX5_written_5 : decode cX5_written 5 = .ok (.aload_n 2, 1) := by decide +kernel
theorem dX5_written_6 : decode cX5_written 6 = .ok (.getfield 142, 3) := by decide +kernel
theorem dX5_written_9 : decode cX5_written 9 = .ok (.iconst 3, 1) := by decide +kernel
theorem dX5_written_10 : decode cX5_written 10 = .ok (.if_icmp .ne 10, 3) := by decide +kernel
theorem dX5_written_13 : decode cX5_written 13 = .ok (.aload_n 2, 1) := by decide +kernel
theorem dX5_written_14 : decode cX5_written 14 = .ok (.getfield 59, 3) := by decide +kernel
theorem dX5_written_17 : decode cX5_written 17 = .ok (.goto 4, 3) := by decide +kernel
theorem dX5_written_20 : decode cX5_written 20 = .ok (.iconst 0, 1) := by decide +kernel
theorem dX5_written_21 : decode cX5_written 21 = .ok (.iadd, 1) := by decide +kernel
theorem dX5_written_22 : decode cX5_written 22 = .ok (.istore_n 3, 1) := by decide +kernel
theorem dX5_written_23 : decode cX5_written 23 = .ok (.iload_n 3, 1) := by decide +kernel
theorem dX5_written_24 : decode cX5_written 24 = .ok (.iconst 4, 1) := by decide +kernel
theorem dX5_written_25 : decode cX5_written 25 = .ok (.irem, 1) := by decide +kernel
theorem dX5_written_26 : decode cX5_written 26 = .ok (.ireturn, 1) := by decide +kernel
set_option maxRecDepth 20000 in
theorem ggX5_relate_X5_isOrdered : GoodIn wsX5_relate wsX5_isOrdered := goodIn_r _ [8, 3, 9, 10, 11, 12, 13, 28, 29, 30, 31, 32, 33, 34, 35, 36, 37, 38, 39, 40, 41, 14, 15, 16, 17, 18, 19, 20, 21, 22, 23, 24, 25, 26, 27] (by decide +kernel) (by decide +kernel)
set_option maxRecDepth 20000 in
theorem gX5_relate_X5_isOrdered : GoodIn wsX5_relate (wsV RX5 178 RX5 yX5_isOrdered wsX5_isOrdered) := goodIn_app (goodIn_of _ (by decide +kernel)) ggX5_relate_X5_isOrdered
theorem dX5_relate_0 : decode cX5_relate 0 = .ok (.aload_n 1, 1) := by decide +kernel
theorem dX5_relate_1 : decode cX5_relate 1 = .ok (.iconst 0, 1) := by decide +kernel
theorem dX5_relate_2 : decode cX5_relate 2 = .ok (.putfield 169, 3) := by decide +kernel
theorem dX5_relate_5 : decode cX5_relate 5 = .ok (.aload_n 1, 1) := by decide +kernel
theorem dX5_relate_6 : decode cX5_relate 6 = .ok (.iconst 0, 1) := by decide +kernel
theorem dX5_relate_7 : decode cX5_relate 7 = .ok (.putfield 172, 3) := by decide +kernel
theorem dX5_relate_10 : decode cX5_relate 10 = .ok (.aload_n 1, 1) := by decide +kernel
theorem dX5_relate_11 : decode cX5_relate 11 = .ok (.iconst (-1), 1) := by decide +kernel
theorem dX5_relate_12 : decode cX5_relate 12 = .ok (.putfield 175, 3) := by decide +kernel
theorem dX5_relate_15 : decode cX5_relate 15 = .ok (.aload_n 0, 1) := by decide +kernel
theorem dX5_relate_16 : decode cX5_relate 16 = .ok (.getfield 33, 3) := by decide +kernel
theorem dX5_relate_19 : decode cX5_relate 19 = .ok (.iconst 1, 1) := by decide +kernel
theorem dX5_relate_20 : decode cX5_relate 20 = .ok (.isub, 1) := by decide +kernel
theorem dX5_relate_21 : decode cX5_relate 21 = .ok (.istore_n 2, 1) := by decide +kernel
theorem dX5_relate_22 : decode cX5_relate 22 = .ok (.iload_n 2, 1) := by decide +kernel
theorem dX5_relate_23 : decode cX5_relate 23 = .ok (.aload_n 0, 1) := by decide +kernel
theorem dX5_relate_24 : decode cX5_relate 24 = .ok (.getfield 75, 3) := by decide +kernel
theorem dX5_relate_27 : decode cX5_relate 27 = .ok (.if_icmp .lt 114, 3) := by decide +kernel
theorem dX5_relate_30 : decode cX5_relate 30 = .ok (.aload_n 0, 1) := by decide +kernel
theorem dX5_relate_31 : decode cX5_relate 31 = .ok (.getfield 21, 3) := by decide +kernel
theorem dX5_relate_34 : decode cX5_relate 34 = .ok (.iload_n 2, 1) := by decide +kernel
theorem dX5_relate_35 : decode cX5_relate 35 = .ok (.aaload, 1) := by decide +kernel
theorem dX5_relate_36 : decode cX5_relate 36 = .ok (.astore_n 3, 1) := by decide +kernel
theorem dX5_relate_37 : decode cX5_relate 37 = .ok (.aload_n 3, 1) := by decide +kernel
theorem dX5_relate_38 : decode cX5_relate 38 = .ok (.getfield 69, 3) := by decide +kernel
theorem dX5_relate_41 : decode cX5_relate 41 = .ok (.aload_n 1, 1) := by decide +kernel
theorem dX5_relate_42 : decode cX5_relate 42 = .ok (.getfield 69, 3) := by decide +kernel
theorem dX5_relate_45 : decode cX5_relate 45 = .ok (.if_icmp .ne 7, 3) := by decide +kernel
theorem dX5_relate_48 : decode cX5_relate 48 = .ok (.iconst 1, 1) := by decide +kernel
theorem dX5_relate_49 : decode cX5_relate 49 = .ok (.goto 4, 3) := by decide +kernel
theorem dX5_relate_52 : decode cX5_relate 52 = .ok (.iconst 0, 1) := by decide +kernel
theorem dX5_relate_53 : decode cX5_relate 53 = .ok (.istore 4, 2) := by decide +kernel
theorem dX5_relate_55 : decode cX5_relate 55 = .ok (.iload 4, 2) := by decide +kernel
theorem dX5_relate_57 : decode cX5_relate 57 = .ok (.ifCond .eq 57, 3) := by decide +kernel
theorem dX5_relate_60 : decode cX5_relate 60 = .ok (.aload_n 1, 1) := by decide +kernel
theorem dX5_relate_61 : decode cX5_relate 61 = .ok (.getfield 175, 3) := by decide +kernel
theorem dX5_relate_64 : decode cX5_relate 64 = .ok (.iconst (-1), 1) := by decide +kernel
theorem dX5_relate_65 : decode cX5_relate 65 = .ok (.if_icmp .ne 49, 3) := by decide +kernel
theorem dX5_relate_68 : decode cX5_relate 68 = .ok (.aload_n 1, 1) := by decide +kernel
theorem dX5_relate_69 : decode cX5_relate 69 = .ok (.dup, 1) := by decide +kernel
theorem dX5_relate_70 : decode cX5_relate 70 = .ok (.getfield 172, 3) := by decide +kernel
theorem dX5_relate_73 : decode cX5_relate 73 = .ok (.aload_n 1, 1) := by decide +kernel
theorem dX5_relate_74 : decode cX5_relate 74 = .ok (.getfield 55, 3) := by decide +kernel
theorem dX5_relate_77 : decode cX5_relate 77 = .ok (.ifCond .eq 16, 3) := by decide +kernel
theorem dX5_relate_80 : decode cX5_relate 80 = .ok (.aload_n 3, 1) := by decide +kernel
theorem dX5_relate_81 : decode cX5_relate 81 = .ok (.getfield 55, 3) := by decide +kernel
theorem dX5_relate_84 : decode cX5_relate 84 = .ok (.ifCond .eq 9, 3) := by decide +kernel
theorem dX5_relate_87 : decode cX5_relate 87 = .ok (.iconst 1, 1) := by decide +kernel
theorem dX5_relate_88 : decode cX5_relate 88 = .ok (.iload_n 2, 1) := by decide +kernel
theorem dX5_relate_89 : decode cX5_relate 89 = .ok (.ishl, 1) := by decide +kernel
theorem dX5_relate_90 : decode cX5_relate 90 = .ok (.goto 4, 3) := by decide +kernel
theorem dX5_relate_93 : decode cX5_relate 93 = .ok (.iconst 0, 1) := by decide +kernel
theorem dX5_relate_94 : decode cX5_relate 94 = .ok (.ior, 1) := by decide +kernel
theorem dX5_relate_95 : decode cX5_relate 95 = .ok (.putfield 172, 3) := by decide +kernel
theorem dX5_relate_98 : decode cX5_relate 98 = .ok (.aload_n 1, 1) := by decide +kernel
theorem dX5_relate_99 : decode cX5_relate 99 = .ok (.aload_n 3, 1) := by decide +kernel
theorem dX5_relate_100 : decode cX5_relate 100 = .ok (.getfield 66, 3) := by decide +kernel
theorem dX5_relate_103 : decode cX5_relate 103 = .ok (.ifCond .eq 7, 3) := by decide +kernel
theorem dX5_relate_106 : decode cX5_relate 106 = .ok (.iload_n 2, 1) := by decide +kernel
theorem dX5_relate_107 : decode cX5_relate 107 = .ok (.goto 4, 3) := by decide +kernel
theorem dX5_relate_110 : decode cX5_relate 110 = .ok (.iconst (-1), 1) := by decide +kernel
theorem dX5_relate_111 : decode cX5_relate 111 = .ok (.putfield 175, 3) := by decide +kernel
theorem dX5_relate_114 : decode cX5_relate 114 = .ok (.aload_n 0, 1) := by decide +kernel
theorem dX5_relate_115 : decode cX5_relate 115 = .ok (.iload_n 2, 1) := by decide +kernel
theorem dX5_relate_116 : decode cX5_relate 116 = .ok (.aload_n 1, 1) := by decide +kernel
theorem dX5_relate_117 : decode cX5_relate 117 = .ok (.invokevirtual 178, 3) := by decide +kernel
theorem dX5_relate_120 : decode cX5_relate 120 = .ok (.ifCond .eq 15, 3) := by decide +kernel
theorem dX5_relate_123 : decode cX5_relate 123 = .ok (.aload_n 1, 1) := by decide +kernel
theorem dX5_relate_124 : decode cX5_relate 124 = .ok (.dup, 1) := by decide +kernel
theorem dX5_relate_125 : decode cX5_relate 125 = .ok (.getfield 169, 3) := by decide +kernel
theorem dX5_relate_128 : decode cX5_relate 128 = .ok (.iconst 1, 1) := by decide +kernel
theorem dX5_relate_129 : decode cX5_relate 129 = .ok (.iload_n 2, 1) := by decide +kernel
theorem dX5_relate_130 : decode cX5_relate 130 = .ok (.ishl, 1) := by decide +kernel
theorem dX5_relate_131 : decode cX5_relate 131 = .ok (.ior, 1) := by decide +kernel
theorem dX5_relate_132 : decode cX5_relate 132 = .ok (.putfield 169, 3) := by decide +kernel
theorem dX5_relate_135 : decode cX5_relate 135 = .ok (.iinc 2 (-1), 3) := by decide +kernel
theorem dX5_relate_138 : decode cX5_relate 138 = .ok (.goto (-116), 3) := by decide +kernel
theorem dX5_relate_141 : decode cX5_relate 141 = .ok (.return_, 1) := by decide +kernel
theorem dX5_isOrdered_0 : decode cX5_isOrdered 0 = .ok (.aload_n 0, 1) := by decide +kernel
theorem dX5_isOrdered_1 : decode cX5_isOrdered 1 = .ok (.getfield 21, 3) := by decide +kernel
theorem dX5_isOrdered_4 : decode cX5_isOrdered 4 = .ok (.iload_n 1, 1) := by decide +kernel
theorem dX5_isOrdered_5 : decode cX5_isOrdered 5 = .ok (.aaload, 1) := by decide +kernel
theorem dX5_isOrdered_6 : decode cX5_isOrdered 6 = .ok (.astore_n 3, 1) := by decide +kernel
theorem dX5_isOrdered_7 : decode cX5_isOrdered 7 = .ok (.aload_n 2, 1) := by decide +kernel
theorem dX5_isOrdered_8 : decode cX5_isOrdered 8 = .ok (.getfield 154, 3) := by decide +kernel
theorem dX5_isOrdered_11 : decode cX5_isOrdered 11 = .ok (.aload_n 2, 1) := by decide +kernel
theorem dX5_isOrdered_12 : decode cX5_isOrdered 12 = .ok (.getfield 157, 3) := by decide +kernel
theorem dX5_isOrdered_15 : decode cX5_isOrdered 15 = .ok (.ior, 1) := by decide +kernel
theorem dX5_isOrdered_16 : decode cX5_isOrdered 16 = .ok (.istore 4, 2) := by decide +kernel
theorem dX5_isOrdered_18 : decode cX5_isOrdered 18 = .ok (.iconst 0, 1) := by decide +kernel
theorem dX5_isOrdered_19 : decode cX5_isOrdered 19 = .ok (.istore 5, 2) := by decide +kernel
theorem dX5_isOrdered_21 : decode cX5_isOrdered 21 = .ok (.aload_n 2, 1) := by decide +kernel
theorem dX5_isOrdered_22 : decode cX5_isOrdered 22 = .ok (.getfield 55, 3) := by decide +kernel
theorem dX5_isOrdered_25 : decode cX5_isOrdered 25 = .ok (.ifCond .eq 12, 3) := by decide +kernel
theorem dX5_isOrdered_28 : decode cX5_isOrdered 28 = .ok (.iload 5, 2) := by decide +kernel
theorem dX5_isOrdered_30 : decode cX5_isOrdered 30 = .ok (.aload_n 0, 1) := by decide +kernel
theorem dX5_isOrdered_31 : decode cX5_isOrdered 31 = .ok (.getfield 87, 3) := by decide +kernel
theorem dX5_isOrdered_34 : decode cX5_isOrdered 34 = .ok (.ior, 1) := by decide +kernel
theorem dX5_isOrdered_35 : decode cX5_isOrdered 35 = .ok (.istore 5, 2) := by decide +kernel
theorem dX5_isOrdered_37 : decode cX5_isOrdered 37 = .ok (.aload_n 2, 1) := by decide +kernel
theorem dX5_isOrdered_38 : decode cX5_isOrdered 38 = .ok (.getfield 66, 3) := by decide +kernel
theorem dX5_isOrdered_41 : decode cX5_isOrdered 41 = .ok (.ifCond .eq 26, 3) := by decide +kernel
theorem dX5_isOrdered_44 : decode cX5_isOrdered 44 = .ok (.iload 5, 2) := by decide +kernel
theorem dX5_isOrdered_46 : decode cX5_isOrdered 46 = .ok (.aload_n 0, 1) := by decide +kernel
theorem dX5_isOrdered_47 : decode cX5_isOrdered 47 = .ok (.getfield 90, 3) := by decide +kernel
theorem dX5_isOrdered_50 : decode cX5_isOrdered 50 = .ok (.ior, 1) := by decide +kernel
theorem dX5_isOrdered_51 : decode cX5_isOrdered 51 = .ok (.istore 5, 2) := by decide +kernel
theorem dX5_isOrdered_53 : decode cX5_isOrdered 53 = .ok (.iload 4, 2) := by decide +kernel
theorem dX5_isOrdered_55 : decode cX5_isOrdered 55 = .ok (.aload_n 0, 1) := by decide +kernel
theorem dX5_isOrdered_56 : decode cX5_isOrdered 56 = .ok (.getfield 81, 3) := by decide +kernel
theorem dX5_isOrdered_59 : decode cX5_isOrdered 59 = .ok (.aload_n 0, 1) := by decide +kernel
theorem dX5_isOrdered_60 : decode cX5_isOrdered 60 = .ok (.getfield 84, 3) := by decide +kernel
theorem dX5_isOrdered_63 : decode cX5_isOrdered 63 = .ok (.ior, 1) := by decide +kernel
theorem dX5_isOrdered_64 : decode cX5_isOrdered 64 = .ok (.ior, 1) := by decide +kernel
theorem dX5_isOrdered_65 : decode cX5_isOrdered 65 = .ok (.istore 4, 2) := by decide +kernel
theorem dX5_isOrdered_67 : decode cX5_isOrdered 67 = .ok (.aload_n 2, 1) := by decide +kernel
theorem dX5_isOrdered_68 : decode cX5_isOrdered 68 = .ok (.getfield 66, 3) := by decide +kernel
theorem dX5_isOrdered_71 : decode cX5_isOrdered 71 = .ok (.ifCond .eq 18, 3) := by decide +kernel
theorem dX5_isOrdered_74 : decode cX5_isOrdered 74 = .ok (.aload_n 3, 1) := by decide +kernel
theorem dX5_isOrdered_75 : decode cX5_isOrdered 75 = .ok (.getfield 69, 3) := by decide +kernel
theorem dX5_isOrdered_78 : decode cX5_isOrdered 78 = .ok (.aload_n 2, 1) := by decide +kernel
theorem dX5_isOrdered_79 : decode cX5_isOrdered 79 = .ok (.getfield 69, 3) := by decide +kernel
theorem dX5_isOrdered_82 : decode cX5_isOrdered 82 = .ok (.if_icmp .ne 7, 3) := by decide +kernel
theorem dX5_isOrdered_85 : decode cX5_isOrdered 85 = .ok (.iconst 1, 1) := by decide +kernel
theorem dX5_isOrdered_86 : decode cX5_isOrdered 86 = .ok (.goto 4, 3) := by decide +kernel
theorem dX5_isOrdered_89 : decode cX5_isOrdered 89 = .ok (.iconst 0, 1) := by decide +kernel
theorem dX5_isOrdered_90 : decode cX5_isOrdered 90 = .ok (.istore 6, 2) := by decide +kernel
theorem dX5_isOrdered_92 : decode cX5_isOrdered 92 = .ok (.iload 5, 2) := by decide +kernel
theorem dX5_isOrdered_94 : decode cX5_isOrdered 94 = .ok (.iload_n 1, 1) := by decide +kernel
theorem dX5_isOrdered_95 : decode cX5_isOrdered 95 = .ok (.ishr, 1) := by decide +kernel
theorem dX5_isOrdered_96 : decode cX5_isOrdered 96 = .ok (.iconst 1, 1) := by decide +kernel
theorem dX5_isOrdered_97 : decode cX5_isOrdered 97 = .ok (.iand, 1) := by decide +kernel
theorem dX5_isOrdered_98 : decode cX5_isOrdered 98 = .ok (.ifCond .eq 7, 3) := by decide +kernel
theorem dX5_isOrdered_101 : decode cX5_isOrdered 101 = .ok (.iconst 1, 1) := by decide +kernel
theorem dX5_isOrdered_102 : decode cX5_isOrdered 102 = .ok (.goto 4, 3) := by decide +kernel
theorem dX5_isOrdered_105 : decode cX5_isOrdered 105 = .ok (.iconst 0, 1) := by decide +kernel
theorem dX5_isOrdered_106 : decode cX5_isOrdered 106 = .ok (.istore 7, 2) := by decide +kernel
theorem dX5_isOrdered_108 : decode cX5_isOrdered 108 = .ok (.aload_n 3, 1) := by decide +kernel
theorem dX5_isOrdered_109 : decode cX5_isOrdered 109 = .ok (.getfield 145, 3) := by decide +kernel
theorem dX5_isOrdered_112 : decode cX5_isOrdered 112 = .ok (.iconst 1, 1) := by decide +kernel
theorem dX5_isOrdered_113 : decode cX5_isOrdered 113 = .ok (.iand, 1) := by decide +kernel
theorem dX5_isOrdered_114 : decode cX5_isOrdered 114 = .ok (.ifCond .ne 12, 3) := by decide +kernel
theorem dX5_isOrdered_117 : decode cX5_isOrdered 117 = .ok (.aload_n 2, 1) := by decide +kernel
theorem dX5_isOrdered_118 : decode cX5_isOrdered 118 = .ok (.getfield 145, 3) := by decide +kernel
theorem dX5_isOrdered_121 : decode cX5_isOrdered 121 = .ok (.iconst 2, 1) := by decide +kernel
theorem dX5_isOrdered_122 : decode cX5_isOrdered 122 = .ok (.iand, 1) := by decide +kernel
theorem dX5_isOrdered_123 : decode cX5_isOrdered 123 = .ok (.ifCond .eq 7, 3) := by decide +kernel
theorem dX5_isOrdered_126 : decode cX5_isOrdered 126 = .ok (.iconst 1, 1) := by decide +kernel
theorem dX5_isOrdered_127 : decode cX5_isOrdered 127 = .ok (.goto 4, 3) := by decide +kernel
theorem dX5_isOrdered_130 : decode cX5_isOrdered 130 = .ok (.iconst 0, 1) := by decide +kernel
theorem dX5_isOrdered_131 : decode cX5_isOrdered 131 = .ok (.istore 8, 2) := by decide +kernel
theorem dX5_isOrdered_133 : decode cX5_isOrdered 133 = .ok (.aload_n 3, 1) := by decide +kernel
theorem dX5_isOrdered_134 : decode cX5_isOrdered 134 = .ok (.getfield 145, 3) := by decide +kernel
theorem dX5_isOrdered_137 : decode cX5_isOrdered 137 = .ok (.ifCond .eq 14, 3) := by decide +kernel
theorem dX5_isOrdered_140 : decode cX5_isOrdered 140 = .ok (.aload_n 2, 1) := by decide +kernel
theorem dX5_isOrdered_141 : decode cX5_isOrdered 141 = .ok (.getfield 145, 3) := by decide +kernel
theorem dX5_isOrdered_144 : decode cX5_isOrdered 144 = .ok (.ifCond .eq 7, 3) := by decide +kernel
theorem dX5_isOrdered_147 : decode cX5_isOrdered 147 = .ok (.iconst 1, 1) := by decide +kernel
theorem dX5_isOrdered_148 : decode cX5_isOrdered 148 = .ok (.goto 4, 3) := by decide +kernel
theorem dX5_isOrdered_151 : decode cX5_isOrdered 151 = .ok (.iconst 0, 1) := by decide +kernel
theorem dX5_isOrdered_152 : decode cX5_isOrdered 152 = .ok (.istore 9, 2) := by decide +kernel
theorem dX5_isOrdered_154 : decode cX5_isOrdered 154 = .ok (.aload_n 2, 1) := by decide +kernel
theorem dX5_isOrdered_155 : decode cX5_isOrdered 155 = .ok (.getfield 160, 3) := by decide +kernel
theorem dX5_isOrdered_158 : decode cX5_isOrdered 158 = .ok (.iload_n 1, 1) := by decide +kernel
theorem dX5_isOrdered_159 : decode cX5_isOrdered 159 = .ok (.if_icmp .ne 7, 3) := by decide +kernel
theorem dX5_isOrdered_162 : decode cX5_isOrdered 162 = .ok (.iconst 1, 1) := by decide +kernel
theorem dX5_isOrdered_163 : decode cX5_isOrdered 163 = .ok (.goto 4, 3) := by decide +kernel
theorem dX5_isOrdered_166 : decode cX5_isOrdered 166 = .ok (.iconst 0, 1) := by decide +kernel
theorem dX5_isOrdered_167 : decode cX5_isOrdered 167 = .ok (.istore 10, 2) := by decide +kernel
theorem dX5_isOrdered_169 : decode cX5_isOrdered 169 = .ok (.iload 4, 2) := by decide +kernel
theorem dX5_isOrdered_171 : decode cX5_isOrdered 171 = .ok (.iload_n 1, 1) := by decide +kernel
theorem dX5_isOrdered_172 : decode cX5_isOrdered 172 = .ok (.ishr, 1) := by decide +kernel
theorem dX5_isOrdered_173 : decode cX5_isOrdered 173 = .ok (.iconst 1, 1) := by decide +kernel
theorem dX5_isOrdered_174 : decode cX5_isOrdered 174 = .ok (.iand, 1) := by decide +kernel
theorem dX5_isOrdered_175 : decode cX5_isOrdered 175 = .ok (.ifCond .eq 7, 3) := by decide +kernel
theorem dX5_isOrdered_178 : decode cX5_isOrdered 178 = .ok (.iconst 1, 1) := by decide +kernel
theorem dX5_isOrdered_179 : decode cX5_isOrdered 179 = .ok (.goto 4, 3) := by decide +kernel
theorem dX5_isOrdered_182 : decode cX5_isOrdered 182 = .ok (.iconst 0, 1) := by decide +kernel
theorem dX5_isOrdered_183 : decode cX5_isOrdered 183 = .ok (.istore 11, 2) := by decide +kernel
theorem dX5_isOrdered_185 : decode cX5_isOrdered 185 = .ok (.aload_n 0, 1) := by decide +kernel
theorem dX5_isOrdered_186 : decode cX5_isOrdered 186 = .ok (.getfield 42, 3) := by decide +kernel
theorem dX5_isOrdered_189 : decode cX5_isOrdered 189 = .ok (.iconst 2, 1) := by decide +kernel
theorem dX5_isOrdered_190 : decode cX5_isOrdered 190 = .ok (.if_icmp .eq 25, 3) := by decide +kernel
theorem dX5_isOrdered_193 : decode cX5_isOrdered 193 = .ok (.aload_n 0, 1) := by decide +kernel
theorem dX5_isOrdered_194 : decode cX5_isOrdered 194 = .ok (.getfield 42, 3) := by decide +kernel
theorem dX5_isOrdered_197 : decode cX5_isOrdered 197 = .ok (.iconst 1, 1) := by decide +kernel
theorem dX5_isOrdered_198 : decode cX5_isOrdered 198 = .ok (.if_icmp .ne 21, 3) := by decide +kernel
theorem dX5_isOrdered_201 : decode cX5_isOrdered 201 = .ok (.aload_n 3, 1) := by decide +kernel
theorem dX5_isOrdered_202 : decode cX5_isOrdered 202 = .ok (.getfield 55, 3) := by decide +kernel
theorem dX5_isOrdered_205 : decode cX5_isOrdered 205 = .ok (.ifCond .ne 10, 3) := by decide +kernel
theorem dX5_isOrdered_208 : decode cX5_isOrdered 208 = .ok (.aload_n 2, 1) := by decide +kernel
theorem dX5_isOrdered_209 : decode cX5_isOrdered 209 = .ok (.getfield 66, 3) := by decide +kernel
theorem dX5_isOrdered_212 : decode cX5_isOrdered 212 = .ok (.ifCond .eq 7, 3) := by decide +kernel
theorem dX5_isOrdered_215 : decode cX5_isOrdered 215 = .ok (.iconst 1, 1) := by decide +kernel
theorem dX5_isOrdered_216 : decode cX5_isOrdered 216 = .ok (.goto 4, 3) := by decide +kernel
theorem dX5_isOrdered_219 : decode cX5_isOrdered 219 = .ok (.iconst 0, 1) := by decide +kernel
theorem dX5_isOrdered_220 : decode cX5_isOrdered 220 = .ok (.istore 12, 2) := by decide +kernel
theorem dX5_isOrdered_222 : decode cX5_isOrdered 222 = .ok (.iload 6, 2) := by decide +kernel
theorem dX5_isOrdered_224 : decode cX5_isOrdered 224 = .ok (.ifCond .ne 33, 3) := by decide +kernel
theorem dX5_isOrdered_227 : decode cX5_isOrdered 227 = .ok (.iload 7, 2) := by decide +kernel
theorem dX5_isOrdered_229 : decode cX5_isOrdered 229 = .ok (.ifCond .ne 28, 3) := by decide +kernel
theorem dX5_isOrdered_232 : decode cX5_isOrdered 232 = .ok (.iload 8, 2) := by decide +kernel
theorem dX5_isOrdered_234 : decode cX5_isOrdered 234 = .ok (.ifCond .ne 23, 3) := by decide +kernel
theorem dX5_isOrdered_237 : decode cX5_isOrdered 237 = .ok (.iload 9, 2) := by decide +kernel
theorem dX5_isOrdered_239 : decode cX5_isOrdered 239 = .ok (.ifCond .ne 18, 3) := by decide +kernel
theorem dX5_isOrdered_242 : decode cX5_isOrdered 242 = .ok (.iload 10, 2) := by decide +kernel
theorem dX5_isOrdered_244 : decode cX5_isOrdered 244 = .ok (.ifCond .ne 13, 3) := by decide +kernel
theorem dX5_isOrdered_247 : decode cX5_isOrdered 247 = .ok (.iload 11, 2) := by decide +kernel
theorem dX5_isOrdered_249 : decode cX5_isOrdered 249 = .ok (.ifCond .ne 8, 3) := by decide +kernel
theorem dX5_isOrdered_252 : decode cX5_isOrdered 252 = .ok (.iload 12, 2) := by decide +kernel
theorem dX5_isOrdered_254 : decode cX5_isOrdered 254 = .ok (.ifCond .eq 7, 3) := by decide +kernel
theorem dX5_isOrdered_257 : decode cX5_isOrdered 257 = .ok (.iconst 1, 1) := by decide +kernel
theorem dX5_isOrdered_258 : decode cX5_isOrdered 258 = .ok (.goto 4, 3) := by decide +kernel
theorem dX5_isOrdered_261 : decode cX5_isOrdered 261 = .ok (.iconst 0, 1) := by decide +kernel
theorem dX5_isOrdered_262 : decode cX5_isOrdered 262 = .ok (.ireturn, 1) := by decide +kernel
set_option maxRecDepth 20000 in
theorem ggX5_place_X5_valueOf : GoodIn wsX5_place wsX5_valueOf := goodIn_r _ [5, 6, 7, 8, 9, 10, 11, 12, 13, 14, 15, 16, 17, 18, 19, 20, 21] (by decide +kernel) (by decide +kernel)
set_option maxRecDepth 20000 in
theorem gX5_place_X5_valueOf : GoodIn wsX5_place (wsV RX5 114 RX5 yX5_valueOf wsX5_valueOf) := goodIn_app (goodIn_of _ (by decide +kernel)) ggX5_place_X5_valueOf
theorem dX5_place_0 : decode cX5_place 0 = .ok (.iload_n 2, 1) := by decide +kernel
theorem dX5_place_1 : decode cX5_place 1 = .ok (.iconst (-1), 1) := by decide +kernel
theorem dX5_place_2 : decode cX5_place 2 = .ok (.if_icmp .ne 7, 3) := by decide +kernel
theorem dX5_place_5 : decode cX5_place 5 = .ok (.iload_n 1, 1) := by decide +kernel
theorem dX5_place_6 : decode cX5_place 6 = .ok (.goto 12, 3) := by decide +kernel
theorem dX5_place_9 : decode cX5_place 9 = .ok (.iload_n 1, 1) := by decide +kernel
theorem dX5_place_10 : decode cX5_place 10 = .ok (.aload_n 0, 1) := by decide +kernel
theorem dX5_place_11 : decode cX5_place 11 = .ok (.iload_n 2, 1) := by decide +kernel
theorem dX5_place_12 : decode cX5_place 12 = .ok (.invokevirtual 114, 3) := by decide +kernel
theorem dX5_place_15 : decode cX5_place 15 = .ok (.iadd, 1) := by decide +kernel
theorem dX5_place_16 : decode cX5_place 16 = .ok (.iconst 3, 1) := by decide +kernel
theorem dX5_place_17 : decode cX5_place 17 = .ok (.irem, 1) := by decide +kernel
theorem dX5_place_18 : decode cX5_place 18 = .ok (.ireturn, 1) := by decide +kernel
theorem dX5_valueOf_0 : decode cX5_valueOf 0 = .ok (.aload_n 0, 1) := by decide +kernel
theorem dX5_valueOf_1 : decode cX5_valueOf 1 = .ok (.getfield 26, 3) := by decide +kernel
theorem dX5_valueOf_4 : decode cX5_valueOf 4 = .ok (.aload_n 0, 1) := by decide +kernel
theorem dX5_valueOf_5 : decode cX5_valueOf 5 = .ok (.getfield 72, 3) := by decide +kernel
theorem dX5_valueOf_8 : decode cX5_valueOf 8 = .ok (.iconst 4, 1) := by decide +kernel
theorem dX5_valueOf_9 : decode cX5_valueOf 9 = .ok (.imul, 1) := by decide +kernel
theorem dX5_valueOf_10 : decode cX5_valueOf 10 = .ok (.iload_n 1, 1) := by decide +kernel
theorem dX5_valueOf_11 : decode cX5_valueOf 11 = .ok (.iadd, 1) := by decide +kernel
theorem dX5_valueOf_12 : decode cX5_valueOf 12 = .ok (.iaload, 1) := by decide +kernel
theorem dX5_valueOf_13 : decode cX5_valueOf 13 = .ok (.ireturn, 1) := by decide +kernel
theorem dX5_carriedBy_0 : decode cX5_carriedBy 0 = .ok (.aload_n 0, 1) := by decide +kernel
theorem dX5_carriedBy_1 : decode cX5_carriedBy 1 = .ok (.getfield 30, 3) := by decide +kernel
theorem dX5_carriedBy_4 : decode cX5_carriedBy 4 = .ok (.aload_n 0, 1) := by decide +kernel
theorem dX5_carriedBy_5 : decode cX5_carriedBy 5 = .ok (.getfield 72, 3) := by decide +kernel
theorem dX5_carriedBy_8 : decode cX5_carriedBy 8 = .ok (.iconst 4, 1) := by decide +kernel
theorem dX5_carriedBy_9 : decode cX5_carriedBy 9 = .ok (.imul, 1) := by decide +kernel
theorem dX5_carriedBy_10 : decode cX5_carriedBy 10 = .ok (.iload_n 1, 1) := by decide +kernel
theorem dX5_carriedBy_11 : decode cX5_carriedBy 11 = .ok (.iadd, 1) := by decide +kernel
theorem dX5_carriedBy_12 : decode cX5_carriedBy 12 = .ok (.iaload, 1) := by decide +kernel
theorem dX5_carriedBy_13 : decode cX5_carriedBy 13 = .ok (.ireturn, 1) := by decide +kernel
theorem dX5_setRegister_0 : decode cX5_setRegister 0 = .ok (.aload_n 0, 1) := by decide +kernel
theorem dX5_setRegister_1 : decode cX5_setRegister 1 = .ok (.getfield 26, 3) := by decide +kernel
theorem dX5_setRegister_4 : decode cX5_setRegister 4 = .ok (.aload_n 0, 1) := by decide +kernel
theorem dX5_setRegister_5 : decode cX5_setRegister 5 = .ok (.getfield 72, 3) := by decide +kernel
theorem dX5_setRegister_8 : decode cX5_setRegister 8 = .ok (.iconst 4, 1) := by decide +kernel
theorem dX5_setRegister_9 : decode cX5_setRegister 9 = .ok (.imul, 1) := by decide +kernel
theorem dX5_setRegister_10 : decode cX5_setRegister 10 = .ok (.iload_n 1, 1) := by decide +kernel
theorem dX5_setRegister_11 : decode cX5_setRegister 11 = .ok (.iadd, 1) := by decide +kernel
theorem dX5_setRegister_12 : decode cX5_setRegister 12 = .ok (.iload_n 2, 1) := by decide +kernel
theorem dX5_setRegister_13 : decode cX5_setRegister 13 = .ok (.iconst 4, 1) := by decide +kernel
theorem dX5_setRegister_14 : decode cX5_setRegister 14 = .ok (.irem, 1) := by decide +kernel
theorem dX5_setRegister_15 : decode cX5_setRegister 15 = .ok (.iastore, 1) := by decide +kernel
theorem dX5_setRegister_16 : decode cX5_setRegister 16 = .ok (.aload_n 0, 1) := by decide +kernel
theorem dX5_setRegister_17 : decode cX5_setRegister 17 = .ok (.getfield 30, 3) := by decide +kernel
theorem dX5_setRegister_20 : decode cX5_setRegister 20 = .ok (.aload_n 0, 1) := by decide +kernel
theorem dX5_setRegister_21 : decode cX5_setRegister 21 = .ok (.getfield 72, 3) := by decide +kernel
theorem dX5_setRegister_24 : decode cX5_setRegister 24 = .ok (.iconst 4, 1) := by decide +kernel
theorem dX5_setRegister_25 : decode cX5_setRegister 25 = .ok (.imul, 1) := by decide +kernel
theorem dX5_setRegister_26 : decode cX5_setRegister 26 = .ok (.iload_n 1, 1) := by decide +kernel
theorem dX5_setRegister_27 : decode cX5_setRegister 27 = .ok (.iadd, 1) := by decide +kernel
theorem dX5_setRegister_28 : decode cX5_setRegister 28 = .ok (.iload_n 3, 1) := by decide +kernel
theorem dX5_setRegister_29 : decode cX5_setRegister 29 = .ok (.iastore, 1) := by decide +kernel
theorem dX5_setRegister_30 : decode cX5_setRegister 30 = .ok (.return_, 1) := by decide +kernel
set_option maxRecDepth 20000 in
theorem ggX6_init_X4_init : GoodIn wsX6_init wsX4_init := goodIn_r _ [29, 30, 2, 3, 31, 32, 33, 34, 35, 36, 37, 79, 80, 81, 82, 83] (by decide +kernel) (by decide +kernel)
set_option maxRecDepth 20000 in
theorem gX6_init_X4_init : GoodIn wsX6_init (wsX4_init) := ggX6_init_X4_init
set_option maxRecDepth 20000 in
theorem ggX6_init_X1_init : GoodIn wsX6_init wsX1_init := goodIn_r _ [40, 41, 2, 3, 32, 42, 43, 44, 45, 92, 93, 94, 95] (by decide +kernel) (by decide +kernel)
set_option maxRecDepth 20000 in
theorem gX6_init_X1_init : GoodIn wsX6_init (wsX1_init) := ggX6_init_X1_init
set_option maxRecDepth 20000 in
theorem ggX6_init_X5_init : GoodIn wsX6_init wsX5_init := goodIn_r _ [48, 49, 2, 3, 50, 51, 52, 53, 54, 55, 32, 56, 57, 58, 59, 60, 96, 97, 98, 99, 100, 101, 102, 103, 104, 105, 106, 107, 108, 109, 119, 120, 121, 122, 123, 124, 125, 126, 127, 128, 129, 130, 131, 132] (by decide +kernel) (by decide +kernel)
set_option maxRecDepth 20000 in
theorem gX6_init_X5_init : GoodIn wsX6_init (wsX5_init) := ggX6_init_X5_init
set_option maxRecDepth 20000 in
theorem ggX6_init_X3_init : GoodIn wsX6_init wsX3_init := goodIn_r _ [63, 64, 2, 3, 65, 66, 67, 110, 111] (by decide +kernel) (by decide +kernel)
set_option maxRecDepth 20000 in
theorem gX6_init_X3_init : GoodIn wsX6_init (wsX3_init) := ggX6_init_X3_init
set_option maxRecDepth 20000 in
theorem ggX6_init_X2_init : GoodIn wsX6_init wsX2_init := goodIn_r _ [70, 71, 2, 3, 72, 73, 32, 74, 75, 76, 77, 78, 112, 113, 114, 115, 116, 117, 118] (by decide +kernel) (by decide +kernel)
set_option maxRecDepth 20000 in
theorem gX6_init_X2_init : GoodIn wsX6_init (wsX2_init) := ggX6_init_X2_init
theorem dX6_init_0 : decode cX6_init 0 = .ok (.aload_n 0, 1) := by decide +kernel
theorem dX6_init_1 : decode cX6_init 1 = .ok (.invokespecial 1, 3) := by decide +kernel
theorem dX6_init_4 : decode cX6_init 4 = .ok (.aload_n 0, 1) := by decide +kernel
theorem dX6_init_5 : decode cX6_init 5 = .ok (.new 7, 3) := by decide +kernel
theorem dX6_init_8 : decode cX6_init 8 = .ok (.dup, 1) := by decide +kernel
theorem dX6_init_9 : decode cX6_init 9 = .ok (.invokespecial 9, 3) := by decide +kernel
theorem dX6_init_12 : decode cX6_init 12 = .ok (.putfield 10, 3) := by decide +kernel
theorem dX6_init_15 : decode cX6_init 15 = .ok (.aload_n 0, 1) := by decide +kernel
theorem dX6_init_16 : decode cX6_init 16 = .ok (.new 16, 3) := by decide +kernel
theorem dX6_init_19 : decode cX6_init 19 = .ok (.dup, 1) := by decide +kernel
theorem dX6_init_20 : decode cX6_init 20 = .ok (.invokespecial 18, 3) := by decide +kernel
theorem dX6_init_23 : decode cX6_init 23 = .ok (.putfield 19, 3) := by decide +kernel
theorem dX6_init_26 : decode cX6_init 26 = .ok (.aload_n 0, 1) := by decide +kernel
theorem dX6_init_27 : decode cX6_init 27 = .ok (.new 23, 3) := by decide +kernel
theorem dX6_init_30 : decode cX6_init 30 = .ok (.dup, 1) := by decide +kernel
theorem dX6_init_31 : decode cX6_init 31 = .ok (.aload_n 0, 1) := by decide +kernel
theorem dX6_init_32 : decode cX6_init 32 = .ok (.getfield 10, 3) := by decide +kernel
theorem dX6_init_35 : decode cX6_init 35 = .ok (.aload_n 0, 1) := by decide +kernel
theorem dX6_init_36 : decode cX6_init 36 = .ok (.getfield 19, 3) := by decide +kernel
theorem dX6_init_39 : decode cX6_init 39 = .ok (.invokespecial 25, 3) := by decide +kernel
theorem dX6_init_42 : decode cX6_init 42 = .ok (.putfield 28, 3) := by decide +kernel
theorem dX6_init_45 : decode cX6_init 45 = .ok (.aload_n 0, 1) := by decide +kernel
theorem dX6_init_46 : decode cX6_init 46 = .ok (.new 32, 3) := by decide +kernel
theorem dX6_init_49 : decode cX6_init 49 = .ok (.dup, 1) := by decide +kernel
theorem dX6_init_50 : decode cX6_init 50 = .ok (.invokespecial 34, 3) := by decide +kernel
theorem dX6_init_53 : decode cX6_init 53 = .ok (.putfield 35, 3) := by decide +kernel
theorem dX6_init_56 : decode cX6_init 56 = .ok (.aload_n 0, 1) := by decide +kernel
theorem dX6_init_57 : decode cX6_init 57 = .ok (.new 39, 3) := by decide +kernel
theorem dX6_init_60 : decode cX6_init 60 = .ok (.dup, 1) := by decide +kernel
theorem dX6_init_61 : decode cX6_init 61 = .ok (.aload_n 0, 1) := by decide +kernel
theorem dX6_init_62 : decode cX6_init 62 = .ok (.getfield 28, 3) := by decide +kernel
theorem dX6_init_65 : decode cX6_init 65 = .ok (.aload_n 0, 1) := by decide +kernel
theorem dX6_init_66 : decode cX6_init 66 = .ok (.getfield 35, 3) := by decide +kernel
theorem dX6_init_69 : decode cX6_init 69 = .ok (.invokespecial 41, 3) := by decide +kernel
theorem dX6_init_72 : decode cX6_init 72 = .ok (.putfield 44, 3) := by decide +kernel
theorem dX6_init_75 : decode cX6_init 75 = .ok (.aload_n 0, 1) := by decide +kernel
theorem dX6_init_76 : decode cX6_init 76 = .ok (.iconst 0, 1) := by decide +kernel
theorem dX6_init_77 : decode cX6_init 77 = .ok (.putfield 48, 3) := by decide +kernel
theorem dX6_init_80 : decode cX6_init 80 = .ok (.aload_n 0, 1) := by decide +kernel
theorem dX6_init_81 : decode cX6_init 81 = .ok (.iconst 0, 1) := by decide +kernel
theorem dX6_init_82 : decode cX6_init 82 = .ok (.putfield 52, 3) := by decide +kernel
theorem dX6_init_85 : decode cX6_init 85 = .ok (.aload_n 0, 1) := by decide +kernel
theorem dX6_init_86 : decode cX6_init 86 = .ok (.iconst 0, 1) := by decide +kernel
theorem dX6_init_87 : decode cX6_init 87 = .ok (.putfield 55, 3) := by decide +kernel
theorem dX6_init_90 : decode cX6_init 90 = .ok (.return_, 1) := by decide +kernel
set_option maxRecDepth 20000 in
theorem ggX6_clear_X4_removeAll : GoodIn wsX6_clear wsX4_removeAll := goodIn_r _ [7, 8, 9, 10, 11, 12, 13, 6, 14, 15, 16, 17, 18, 27, 28, 29, 30, 31] (by decide +kernel) (by decide +kernel)
set_option maxRecDepth 20000 in
theorem gX6_clear_X4_removeAll : GoodIn wsX6_clear (wsV RX6 59 RX4 yX4_removeAll wsX4_removeAll) := goodIn_app (goodIn_of _ (by decide +kernel)) ggX6_clear_X4_removeAll
theorem dX6_clear_0 : decode cX6_clear 0 = .ok (.aload_n 0, 1) := by decide +kernel
theorem dX6_clear_1 : decode cX6_clear 1 = .ok (.iconst 0, 1) := by decide +kernel
theorem dX6_clear_2 : decode cX6_clear 2 = .ok (.putfield 55, 3) := by decide +kernel
theorem dX6_clear_5 : decode cX6_clear 5 = .ok (.aload_n 0, 1) := by decide +kernel
theorem dX6_clear_6 : decode cX6_clear 6 = .ok (.getfield 10, 3) := by decide +kernel
theorem dX6_clear_9 : decode cX6_clear 9 = .ok (.invokevirtual 59, 3) := by decide +kernel
theorem dX6_clear_12 : decode cX6_clear 12 = .ok (.ireturn, 1) := by decide +kernel
theorem dX6_model_0 : decode cX6_model 0 = .ok (.iload_n 1, 1) := by decide +kernel
theorem dX6_model_1 : decode cX6_model 1 = .ok (.ifCond .lt 8, 3) := by decide +kernel
theorem dX6_model_4 : decode cX6_model 4 = .ok (.iload_n 1, 1) := by decide +kernel
theorem dX6_model_5 : decode cX6_model 5 = .ok (.iconst 3, 1) := by decide +kernel
theorem dX6_model_6 : decode cX6_model 6 = .ok (.if_icmp .lt 6, 3) := by decide +kernel
theorem dX6_model_9 : decode cX6_model 9 = .ok (.bipush (-2), 2) := by decide +kernel
theorem dX6_model_11 : decode cX6_model 11 = .ok (.ireturn, 1) := by decide +kernel
theorem dX6_model_12 : decode cX6_model 12 = .ok (.aload_n 0, 1) := by decide +kernel
theorem dX6_model_13 : decode cX6_model 13 = .ok (.getfield 48, 3) := by decide +kernel
theorem dX6_model_16 : decode cX6_model 16 = .ok (.istore_n 2, 1) := by decide +kernel
theorem dX6_model_17 : decode cX6_model 17 = .ok (.aload_n 0, 1) := by decide +kernel
theorem dX6_model_18 : decode cX6_model 18 = .ok (.iload_n 1, 1) := by decide +kernel
theorem dX6_model_19 : decode cX6_model 19 = .ok (.putfield 48, 3) := by decide +kernel
theorem dX6_model_22 : decode cX6_model 22 = .ok (.aload_n 0, 1) := by decide +kernel
theorem dX6_model_23 : decode cX6_model 23 = .ok (.iconst 0, 1) := by decide +kernel
theorem dX6_model_24 : decode cX6_model 24 = .ok (.putfield 55, 3) := by decide +kernel
theorem dX6_model_27 : decode cX6_model 27 = .ok (.iload_n 2, 1) := by decide +kernel
theorem dX6_model_28 : decode cX6_model 28 = .ok (.ireturn, 1) := by decide +kernel
set_option maxRecDepth 20000 in
theorem ggX6_add_X4_propose : GoodIn wsX6_add wsX4_propose := goodIn_r _ [7, 8, 101, 102, 103, 104, 105] (by decide +kernel) (by decide +kernel)
set_option maxRecDepth 20000 in
theorem gX6_add_X4_propose : GoodIn wsX6_add (wsV RX6 63 RX4 yX4_propose wsX4_propose) := goodIn_app (goodIn_of _ (by decide +kernel)) ggX6_add_X4_propose
set_option maxRecDepth 20000 in
theorem ggX6_add_X4_append : GoodIn wsX6_add wsX4_append := goodIn_r _ [12, 8, 13, 14, 15, 16, 17, 18, 6, 19, 20, 21, 22, 23, 24, 25, 26, 27, 28, 29, 30, 31, 32, 33, 34, 35, 36, 37, 38, 39, 40, 41, 42, 43, 44, 45, 46, 47, 48, 49, 50, 51, 52, 53, 54, 55, 56, 57, 58, 59, 60, 61, 62, 63, 64, 65, 66, 67, 68, 69, 70, 71, 72, 73, 74, 75, 76, 77, 78, 79, 80, 81, 82, 83, 84, 85, 86, 87, 88, 89, 90, 91, 92, 101, 102, 103, 104, 105] (by decide +kernel) (by decide +kernel)
set_option maxRecDepth 20000 in
theorem gX6_add_X4_append : GoodIn wsX6_add (wsV RX6 67 RX4 yX4_append wsX4_append) := goodIn_app (goodIn_of _ (by decide +kernel)) ggX6_add_X4_append
theorem dX6_add_0 : decode cX6_add 0 = .ok (.aload_n 0, 1) := by decide +kernel
theorem dX6_add_1 : decode cX6_add 1 = .ok (.getfield 10, 3) := by decide +kernel
theorem dX6_add_4 : decode cX6_add 4 = .ok (.iload_n 2, 1) := by decide +kernel
theorem dX6_add_5 : decode cX6_add 5 = .ok (.iload_n 3, 1) := by decide +kernel
theorem dX6_add_6 : decode cX6_add 6 = .ok (.iload 4, 2) := by decide +kernel
theorem dX6_add_8 : decode cX6_add 8 = .ok (.iload 5, 2) := by decide +kernel
theorem dX6_add_10 : decode cX6_add 10 = .ok (.iload 6, 2) := by decide +kernel
theorem dX6_add_12 : decode cX6_add 12 = .ok (.iload 7, 2) := by decide +kernel
theorem dX6_add_14 : decode cX6_add 14 = .ok (.invokevirtual 63, 3) := by decide +kernel
theorem dX6_add_17 : decode cX6_add 17 = .ok (.aload_n 0, 1) := by decide +kernel
theorem dX6_add_18 : decode cX6_add 18 = .ok (.getfield 10, 3) := by decide +kernel
theorem dX6_add_21 : decode cX6_add 21 = .ok (.iload_n 1, 1) := by decide +kernel
theorem dX6_add_22 : decode cX6_add 22 = .ok (.invokevirtual 67, 3) := by decide +kernel
theorem dX6_add_25 : decode cX6_add 25 = .ok (.istore 8, 2) := by decide +kernel
theorem dX6_add_27 : decode cX6_add 27 = .ok (.iload 8, 2) := by decide +kernel
theorem dX6_add_29 : decode cX6_add 29 = .ok (.ifCond .lt 8, 3) := by decide +kernel
theorem dX6_add_32 : decode cX6_add 32 = .ok (.aload_n 0, 1) := by decide +kernel
theorem dX6_add_33 : decode cX6_add 33 = .ok (.iconst 0, 1) := by decide +kernel
theorem dX6_add_34 : decode cX6_add 34 = .ok (.putfield 55, 3) := by decide +kernel
theorem dX6_add_37 : decode cX6_add 37 = .ok (.iload 8, 2) := by decide +kernel
theorem dX6_add_39 : decode cX6_add 39 = .ok (.ireturn, 1) := by decide +kernel
set_option maxRecDepth 20000 in
theorem ggX6_find_X3_size : GoodIn wsX6_find wsX3_size := goodIn_r _ [12, 13, 231, 232] (by decide +kernel) (by decide +kernel)
set_option maxRecDepth 20000 in
theorem gX6_find_X3_size : GoodIn wsX6_find (wsV RX6 71 RX3 yX3_size wsX3_size) := goodIn_app (goodIn_of _ (by decide +kernel)) ggX6_find_X3_size
set_option maxRecDepth 20000 in
theorem ggX6_find_X3_removeAll : GoodIn wsX6_find wsX3_removeAll := goodIn_r _ [17, 13, 231, 232] (by decide +kernel) (by decide +kernel)
set_option maxRecDepth 20000 in
theorem gX6_find_X3_removeAll : GoodIn wsX6_find (wsV RX6 74 RX3 yX3_removeAll wsX3_removeAll) := goodIn_app (goodIn_of _ (by decide +kernel)) ggX6_find_X3_removeAll
set_option maxRecDepth 20000 in
theorem ggX6_find_X1_restart : GoodIn wsX6_find wsX1_restart := goodIn_r _ [22, 23, 24, 233, 234, 235, 236] (by decide +kernel) (by decide +kernel)
set_option maxRecDepth 20000 in
theorem gX6_find_X1_restart : GoodIn wsX6_find (wsV RX6 76 RX1 yX1_restart wsX1_restart) := goodIn_app (goodIn_of _ (by decide +kernel)) ggX6_find_X1_restart
set_option maxRecDepth 20000 in
theorem ggX6_find_X5_walk : GoodIn wsX6_find wsX5_walk := goodIn_r _ [29, 30, 31, 32, 33, 34, 35, 36, 37, 38, 39, 40, 28, 41, 42, 43, 44, 45, 46, 47, 48, 49, 50, 51, 52, 53, 54, 55, 56, 57, 58, 59, 60, 61, 62, 63, 64, 65, 66, 67, 68, 69, 70, 71, 72, 73, 74, 75, 76, 77, 78, 79, 80, 81, 82, 83, 84, 85, 86, 87, 88, 89, 90, 91, 92, 93, 94, 95, 96, 97, 21, 98, 23, 24, 99, 100, 101, 102, 103, 104, 105, 106, 107, 108, 109, 110, 111, 112, 113, 114, 115, 116, 117, 118, 119, 120, 121, 237, 238, 239, 240, 241, 242, 243, 244, 245, 246, 247, 248, 249, 250, 251, 252, 253, 254, 255, 256, 257, 258, 259, 260, 261, 262, 263, 264, 265, 266, 267, 268, 269, 233, 234, 235, 236] (by decide +kernel) (by decide +kernel)
set_option maxRecDepth 20000 in
theorem gX6_find_X5_walk : GoodIn wsX6_find (wsV RX6 79 RX5 yX5_walk wsX5_walk) := goodIn_app (goodIn_of _ (by decide +kernel)) ggX6_find_X5_walk
set_option maxRecDepth 20000 in
theorem ggX6_find_X5_isPlausible : GoodIn wsX6_find wsX5_isPlausible := goodIn_r _ [125, 31, 81, 126, 127, 128, 28, 129, 237, 238, 239, 240, 241, 242, 243, 244, 245, 246, 247, 248, 249, 250, 256, 257, 258, 259, 260, 261, 262, 263, 264, 265, 266, 267, 268, 269] (by decide +kernel) (by decide +kernel)
set_option maxRecDepth 20000 in
theorem gX6_find_X5_isPlausible : GoodIn wsX6_find (wsV RX6 83 RX5 yX5_isPlausible wsX5_isPlausible) := goodIn_app (goodIn_of _ (by decide +kernel)) ggX6_find_X5_isPlausible
set_option maxRecDepth 20000 in
theorem ggX6_find_X2_search : GoodIn wsX6_find wsX2_search := goodIn_r _ [134, 135, 136, 137, 138, 139, 140, 141, 28, 142, 143, 32, 144, 35, 36, 37, 145, 146, 147, 133, 148, 149, 150, 151, 152, 153, 154, 31, 155, 156, 157, 158, 81, 159, 160, 161, 11, 162, 13, 163, 164, 165, 166, 167, 168, 169, 170, 171, 172, 173, 174, 175, 176, 177, 178, 179, 180, 181, 182, 183, 184, 185, 186, 187, 188, 189, 190, 191, 192, 193, 194, 195, 196, 197, 198, 199, 200, 201, 202, 203, 204, 205, 206, 207, 208, 209, 210, 211, 212, 213, 214, 215, 216, 217, 218, 270, 271, 272, 273, 274, 275, 276, 237, 238, 239, 240, 241, 242, 243, 244, 245, 246, 247, 248, 249, 250, 256, 257, 258, 259, 260, 261, 262, 263, 264, 265, 266, 267, 268, 269, 231, 232] (by decide +kernel) (by decide +kernel)
set_option maxRecDepth 20000 in
theorem gX6_find_X2_search : GoodIn wsX6_find (wsV RX6 87 RX2 yX2_search wsX2_search) := goodIn_app (goodIn_of _ (by decide +kernel)) ggX6_find_X2_search
set_option maxRecDepth 20000 in
theorem ggX6_find_X1_advance : GoodIn wsX6_find wsX1_advance := goodIn_r _ [222, 23, 99, 100, 24, 233, 234, 235, 236] (by decide +kernel) (by decide +kernel)
set_option maxRecDepth 20000 in
theorem gX6_find_X1_advance : GoodIn wsX6_find (wsV RX6 90 RX1 yX1_advance wsX1_advance) := goodIn_app (goodIn_of _ (by decide +kernel)) ggX6_find_X1_advance
theorem dX6_find_0 : decode cX6_find 0 = .ok (.aload_n 0, 1) := by decide +kernel
theorem dX6_find_1 : decode cX6_find 1 = .ok (.getfield 55, 3) := by decide +kernel
theorem dX6_find_4 : decode cX6_find 4 = .ok (.ifCond .eq 11, 3) := by decide +kernel
theorem dX6_find_7 : decode cX6_find 7 = .ok (.aload_n 0, 1) := by decide +kernel
theorem dX6_find_8 : decode cX6_find 8 = .ok (.getfield 35, 3) := by decide +kernel
theorem dX6_find_11 : decode cX6_find 11 = .ok (.invokevirtual 71, 3) := by decide +kernel
theorem dX6_find_14 : decode cX6_find 14 = .ok (.ireturn, 1) := by decide +kernel
theorem dX6_find_15 : decode cX6_find 15 = .ok (.aload_n 0, 1) := by decide +kernel
theorem dX6_find_16 : decode cX6_find 16 = .ok (.getfield 35, 3) := by decide +kernel
theorem dX6_find_19 : decode cX6_find 19 = .ok (.invokevirtual 74, 3) := by decide +kernel
theorem dX6_find_22 : decode cX6_find 22 = .ok (.aload_n 0, 1) := by decide +kernel
theorem dX6_find_23 : decode cX6_find 23 = .ok (.getfield 19, 3) := by decide +kernel
theorem dX6_find_26 : decode cX6_find 26 = .ok (.invokevirtual 76, 3) := by decide +kernel
theorem dX6_find_29 : decode cX6_find 29 = .ok (.aload_n 0, 1) := by decide +kernel
theorem dX6_find_30 : decode cX6_find 30 = .ok (.iconst 0, 1) := by decide +kernel
theorem dX6_find_31 : decode cX6_find 31 = .ok (.putfield 52, 3) := by decide +kernel
theorem dX6_find_34 : decode cX6_find 34 = .ok (.iconst 1, 1) := by decide +kernel
theorem dX6_find_35 : decode cX6_find 35 = .ok (.istore_n 1, 1) := by decide +kernel
theorem dX6_find_36 : decode cX6_find 36 = .ok (.iconst 0, 1) := by decide +kernel
theorem dX6_find_37 : decode cX6_find 37 = .ok (.istore_n 2, 1) := by decide +kernel
theorem dX6_find_38 : decode cX6_find 38 = .ok (.iload_n 1, 1) := by decide +kernel
theorem dX6_find_39 : decode cX6_find 39 = .ok (.ifCond .eq 65, 3) := by decide +kernel
theorem dX6_find_42 : decode cX6_find 42 = .ok (.iload_n 2, 1) := by decide +kernel
theorem dX6_find_43 : decode cX6_find 43 = .ok (.sipush 4096, 3) := by decide +kernel
theorem dX6_find_46 : decode cX6_find 46 = .ok (.if_icmp .ge 58, 3) := by decide +kernel
theorem dX6_find_49 : decode cX6_find 49 = .ok (.aload_n 0, 1) := by decide +kernel
theorem dX6_find_50 : decode cX6_find 50 = .ok (.getfield 28, 3) := by decide +kernel
theorem dX6_find_53 : decode cX6_find 53 = .ok (.aload_n 0, 1) := by decide +kernel
theorem dX6_find_54 : decode cX6_find 54 = .ok (.getfield 48, 3) := by decide +kernel
theorem dX6_find_57 : decode cX6_find 57 = .ok (.invokevirtual 79, 3) := by decide +kernel
theorem dX6_find_60 : decode cX6_find 60 = .ok (.aload_n 0, 1) := by decide +kernel
theorem dX6_find_61 : decode cX6_find 61 = .ok (.getfield 28, 3) := by decide +kernel
theorem dX6_find_64 : decode cX6_find 64 = .ok (.invokevirtual 83, 3) := by decide +kernel
theorem dX6_find_67 : decode cX6_find 67 = .ok (.ifCond .eq 23, 3) := by decide +kernel
theorem dX6_find_70 : decode cX6_find 70 = .ok (.aload_n 0, 1) := by decide +kernel
theorem dX6_find_71 : decode cX6_find 71 = .ok (.getfield 44, 3) := by decide +kernel
theorem dX6_find_74 : decode cX6_find 74 = .ok (.invokevirtual 87, 3) := by decide +kernel
theorem dX6_find_77 : decode cX6_find 77 = .ok (.ifCond .eq 13, 3) := by decide +kernel
theorem dX6_find_80 : decode cX6_find 80 = .ok (.aload_n 0, 1) := by decide +kernel
theorem dX6_find_81 : decode cX6_find 81 = .ok (.dup, 1) := by decide +kernel
theorem dX6_find_82 : decode cX6_find 82 = .ok (.getfield 52, 3) := by decide +kernel
theorem dX6_find_85 : decode cX6_find 85 = .ok (.iconst 1, 1) := by decide +kernel
theorem dX6_find_86 : decode cX6_find 86 = .ok (.iadd, 1) := by decide +kernel
theorem dX6_find_87 : decode cX6_find 87 = .ok (.putfield 52, 3) := by decide +kernel
theorem dX6_find_90 : decode cX6_find 90 = .ok (.aload_n 0, 1) := by decide +kernel
theorem dX6_find_91 : decode cX6_find 91 = .ok (.getfield 19, 3) := by decide +kernel
theorem dX6_find_94 : decode cX6_find 94 = .ok (.invokevirtual 90, 3) := by decide +kernel
theorem dX6_find_97 : decode cX6_find 97 = .ok (.istore_n 1, 1) := by decide +kernel
theorem dX6_find_98 : decode cX6_find 98 = .ok (.iinc 2 1, 3) := by decide +kernel
theorem dX6_find_101 : decode cX6_find 101 = .ok (.goto (-63), 3) := by decide +kernel
theorem dX6_find_104 : decode cX6_find 104 = .ok (.aload_n 0, 1) := by decide +kernel
theorem dX6_find_105 : decode cX6_find 105 = .ok (.iconst 1, 1) := by decide +kernel
theorem dX6_find_106 : decode cX6_find 106 = .ok (.putfield 55, 3) := by decide +kernel
theorem dX6_find_109 : decode cX6_find 109 = .ok (.aload_n 0, 1) := by decide +kernel
theorem dX6_find_110 : decode cX6_find 110 = .ok (.getfield 35, 3) := by decide +kernel
theorem dX6_find_113 : decode cX6_find 113 = .ok (.invokevirtual 71, 3) := by decide +kernel
theorem dX6_find_116 : decode cX6_find 116 = .ok (.ireturn, 1) := by decide +kernel
set_option maxRecDepth 20000 in
theorem ggX6_outcome_X3_at : GoodIn wsX6_outcome wsX3_at := goodIn_r _ [8, 9, 10, 11, 20, 21] (by decide +kernel) (by decide +kernel)
set_option maxRecDepth 20000 in
theorem gX6_outcome_X3_at : GoodIn wsX6_outcome (wsV RX6 93 RX3 yX3_at wsX3_at) := goodIn_app (goodIn_of _ (by decide +kernel)) ggX6_outcome_X3_at
theorem dX6_outcome_0 : decode cX6_outcome 0 = .ok (.aload_n 0, 1) := by decide +kernel
theorem dX6_outcome_1 : decode cX6_outcome 1 = .ok (.getfield 55, 3) := by decide +kernel
theorem dX6_outcome_4 : decode cX6_outcome 4 = .ok (.ifCond .eq 14, 3) := by decide +kernel
theorem dX6_outcome_7 : decode cX6_outcome 7 = .ok (.aload_n 0, 1) := by decide +kernel
theorem dX6_outcome_8 : decode cX6_outcome 8 = .ok (.getfield 35, 3) := by decide +kernel
theorem dX6_outcome_11 : decode cX6_outcome 11 = .ok (.iload_n 1, 1) := by decide +kernel
theorem dX6_outcome_12 : decode cX6_outcome 12 = .ok (.invokevirtual 93, 3) := by decide +kernel
theorem dX6_outcome_15 : decode cX6_outcome 15 = .ok (.goto 6, 3) := by decide +kernel
theorem dX6_outcome_18 : decode cX6_outcome 18 = .ok (.ldc2_w 97, 3) := by decide +kernel
theorem dX6_outcome_21 : decode cX6_outcome 21 = .ok (.lreturn, 1) := by decide +kernel
set_option maxRecDepth 20000 in
theorem ggX6_with_X6_both : GoodIn wsX6_with wsX6_both := goodIn_r _ [5, 6, 7, 8, 9, 4, 10, 11, 12, 13, 14, 15, 16, 17, 18, 19, 20, 21, 22, 23, 24, 25, 26, 27, 28, 29, 30, 31, 32, 33] (by decide +kernel) (by decide +kernel)
set_option maxRecDepth 20000 in
theorem gX6_with_X6_both : GoodIn wsX6_with (wsV RX6 99 RX6 yX6_both wsX6_both) := goodIn_app (goodIn_of _ (by decide +kernel)) ggX6_with_X6_both
theorem dX6_with_0 : decode cX6_with 0 = .ok (.aload_n 0, 1) := by decide +kernel
theorem dX6_with_1 : decode cX6_with 1 = .ok (.iload_n 1, 1) := by decide +kernel
theorem dX6_with_2 : decode cX6_with 2 = .ok (.iload_n 2, 1) := by decide +kernel
theorem dX6_with_3 : decode cX6_with 3 = .ok (.iload_n 1, 1) := by decide +kernel
theorem dX6_with_4 : decode cX6_with 4 = .ok (.iload_n 2, 1) := by decide +kernel
theorem dX6_with_5 : decode cX6_with 5 = .ok (.invokevirtual 99, 3) := by decide +kernel
theorem dX6_with_8 : decode cX6_with 8 = .ok (.ireturn, 1) := by decide +kernel
set_option maxRecDepth 20000 in
theorem ggX6_both_X6_isPart : GoodIn wsX6_both wsX6_isPart := goodIn_r _ [6] (by decide +kernel) (by decide +kernel)
set_option maxRecDepth 20000 in
theorem gX6_both_X6_isPart : GoodIn wsX6_both (va_wsS RX6 103 yX6_isPart wsX6_isPart) := goodIn_app (goodIn_of _ (by decide +kernel)) ggX6_both_X6_isPart
set_option maxRecDepth 20000 in
theorem ggX6_both_X6_isValue : GoodIn wsX6_both wsX6_isValue := goodIn_r _ [9] (by decide +kernel) (by decide +kernel)
set_option maxRecDepth 20000 in
theorem gX6_both_X6_isValue : GoodIn wsX6_both (va_wsS RX6 107 yX6_isValue wsX6_isValue) := goodIn_app (goodIn_of _ (by decide +kernel)) ggX6_both_X6_isValue
set_option maxRecDepth 20000 in
theorem ggX6_both_X3_howMany : GoodIn wsX6_both wsX3_howMany := goodIn_r _ [14, 15, 16, 17, 18, 13, 19, 28, 29] (by decide +kernel) (by decide +kernel)
set_option maxRecDepth 20000 in
theorem gX6_both_X3_howMany : GoodIn wsX6_both (wsV RX6 110 RX3 yX3_howMany wsX3_howMany) := goodIn_app (goodIn_of _ (by decide +kernel)) ggX6_both_X3_howMany
theorem dX6_both_0 : decode cX6_both 0 = .ok (.iload_n 1, 1) := by decide +kernel
theorem dX6_both_1 : decode cX6_both 1 = .ok (.invokestatic 103, 3) := by decide +kernel
theorem dX6_both_4 : decode cX6_both 4 = .ok (.ifCond .eq 25, 3) := by decide +kernel
theorem dX6_both_7 : decode cX6_both 7 = .ok (.iload_n 2, 1) := by decide +kernel
theorem dX6_both_8 : decode cX6_both 8 = .ok (.invokestatic 107, 3) := by decide +kernel
theorem dX6_both_11 : decode cX6_both 11 = .ok (.ifCond .eq 18, 3) := by decide +kernel
theorem dX6_both_14 : decode cX6_both 14 = .ok (.iload_n 3, 1) := by decide +kernel
theorem dX6_both_15 : decode cX6_both 15 = .ok (.invokestatic 103, 3) := by decide +kernel
theorem dX6_both_18 : decode cX6_both 18 = .ok (.ifCond .eq 11, 3) := by decide +kernel
theorem dX6_both_21 : decode cX6_both 21 = .ok (.iload 4, 2) := by decide +kernel
theorem dX6_both_23 : decode cX6_both 23 = .ok (.invokestatic 107, 3) := by decide +kernel
theorem dX6_both_26 : decode cX6_both 26 = .ok (.ifCond .ne 6, 3) := by decide +kernel
theorem dX6_both_29 : decode cX6_both 29 = .ok (.bipush (-2), 2) := by decide +kernel
theorem dX6_both_31 : decode cX6_both 31 = .ok (.ireturn, 1) := by decide +kernel
theorem dX6_both_32 : decode cX6_both 32 = .ok (.aload_n 0, 1) := by decide +kernel
theorem dX6_both_33 : decode cX6_both 33 = .ok (.getfield 55, 3) := by decide +kernel
theorem dX6_both_36 : decode cX6_both 36 = .ok (.ifCond .eq 18, 3) := by decide +kernel
theorem dX6_both_39 : decode cX6_both 39 = .ok (.aload_n 0, 1) := by decide +kernel
theorem dX6_both_40 : decode cX6_both 40 = .ok (.getfield 35, 3) := by decide +kernel
theorem dX6_both_43 : decode cX6_both 43 = .ok (.iload_n 1, 1) := by decide +kernel
theorem dX6_both_44 : decode cX6_both 44 = .ok (.iload_n 2, 1) := by decide +kernel
theorem dX6_both_45 : decode cX6_both 45 = .ok (.iload_n 3, 1) := by decide +kernel
theorem dX6_both_46 : decode cX6_both 46 = .ok (.iload 4, 2) := by decide +kernel
theorem dX6_both_48 : decode cX6_both 48 = .ok (.invokevirtual 110, 3) := by decide +kernel
theorem dX6_both_51 : decode cX6_both 51 = .ok (.goto 4, 3) := by decide +kernel
theorem dX6_both_54 : decode cX6_both 54 = .ok (.iconst (-1), 1) := by decide +kernel
theorem dX6_both_55 : decode cX6_both 55 = .ok (.ireturn, 1) := by decide +kernel
set_option maxRecDepth 20000 in
theorem ggX6_is_X3_holds : GoodIn wsX6_is wsX3_holds := goodIn_r _ [7, 8, 9, 10, 11, 12, 6, 13, 22, 23] (by decide +kernel) (by decide +kernel)
set_option maxRecDepth 20000 in
theorem gX6_is_X3_holds : GoodIn wsX6_is (wsV RX6 113 RX3 yX3_holds wsX3_holds) := goodIn_app (goodIn_of _ (by decide +kernel)) ggX6_is_X3_holds
theorem dX6_is_0 : decode cX6_is 0 = .ok (.aload_n 0, 1) := by decide +kernel
theorem dX6_is_1 : decode cX6_is 1 = .ok (.getfield 55, 3) := by decide +kernel
theorem dX6_is_4 : decode cX6_is 4 = .ok (.ifCond .ne 5, 3) := by decide +kernel
theorem dX6_is_7 : decode cX6_is 7 = .ok (.iconst (-1), 1) := by decide +kernel
theorem dX6_is_8 : decode cX6_is 8 = .ok (.ireturn, 1) := by decide +kernel
theorem dX6_is_9 : decode cX6_is 9 = .ok (.aload_n 0, 1) := by decide +kernel
theorem dX6_is_10 : decode cX6_is 10 = .ok (.getfield 35, 3) := by decide +kernel
theorem dX6_is_13 : decode cX6_is 13 = .ok (.lload_n 1, 1) := by decide +kernel
theorem dX6_is_14 : decode cX6_is 14 = .ok (.invokevirtual 113, 3) := by decide +kernel
theorem dX6_is_17 : decode cX6_is 17 = .ok (.ifCond .eq 7, 3) := by decide +kernel
theorem dX6_is_20 : decode cX6_is 20 = .ok (.iconst 1, 1) := by decide +kernel
theorem dX6_is_21 : decode cX6_is 21 = .ok (.goto 4, 3) := by decide +kernel
theorem dX6_is_24 : decode cX6_is 24 = .ok (.iconst 0, 1) := by decide +kernel
theorem dX6_is_25 : decode cX6_is 25 = .ok (.ireturn, 1) := by decide +kernel
set_option maxRecDepth 20000 in
theorem ggX6_instruction_X4_has : GoodIn wsX6_instruction wsX4_has := goodIn_r _ [6, 7, 21, 22, 23, 24, 25] (by decide +kernel) (by decide +kernel)
set_option maxRecDepth 20000 in
theorem gX6_instruction_X4_has : GoodIn wsX6_instruction (wsV RX6 117 RX4 yX4_has wsX4_has) := goodIn_app (goodIn_of _ (by decide +kernel)) ggX6_instruction_X4_has
set_option maxRecDepth 20000 in
theorem ggX6_instruction_X4_row : GoodIn wsX6_instruction wsX4_row := goodIn_r _ [11, 12, 21, 22, 23, 24, 25] (by decide +kernel) (by decide +kernel)
set_option maxRecDepth 20000 in
theorem gX6_instruction_X4_row : GoodIn wsX6_instruction (wsV RX6 121 RX4 yX4_row wsX4_row) := goodIn_app (goodIn_of _ (by decide +kernel)) ggX6_instruction_X4_row
theorem dX6_instruction_0 : decode cX6_instruction 0 = .ok (.aload_n 0, 1) := by decide +kernel
theorem dX6_instruction_1 : decode cX6_instruction 1 = .ok (.getfield 10, 3) := by decide +kernel
theorem dX6_instruction_4 : decode cX6_instruction 4 = .ok (.iload_n 1, 1) := by decide +kernel
theorem dX6_instruction_5 : decode cX6_instruction 5 = .ok (.iload_n 2, 1) := by decide +kernel
theorem dX6_instruction_6 : decode cX6_instruction 6 = .ok (.invokevirtual 117, 3) := by decide +kernel
theorem dX6_instruction_9 : decode cX6_instruction 9 = .ok (.ifCond .ne 5, 3) := by decide +kernel
theorem dX6_instruction_12 : decode cX6_instruction 12 = .ok (.iconst (-1), 1) := by decide +kernel
theorem dX6_instruction_13 : decode cX6_instruction 13 = .ok (.ireturn, 1) := by decide +kernel
theorem dX6_instruction_14 : decode cX6_instruction 14 = .ok (.iload_n 3, 1) := by decide +kernel
theorem dX6_instruction_15 : decode cX6_instruction 15 = .ok (.ifCond .lt 23, 3) := by decide +kernel
theorem dX6_instruction_18 : decode cX6_instruction 18 = .ok (.iload_n 3, 1) := by decide +kernel
theorem dX6_instruction_19 : decode cX6_instruction 19 = .ok (.bipush 6, 2) := by decide +kernel
theorem dX6_instruction_21 : decode cX6_instruction 21 = .ok (.if_icmp .ge 17, 3) := by decide +kernel
theorem dX6_instruction_24 : decode cX6_instruction 24 = .ok (.aload_n 0, 1) := by decide +kernel
theorem dX6_instruction_25 : decode cX6_instruction 25 = .ok (.getfield 10, 3) := by decide +kernel
theorem dX6_instruction_28 : decode cX6_instruction 28 = .ok (.iload_n 1, 1) := by decide +kernel
theorem dX6_instruction_29 : decode cX6_instruction 29 = .ok (.iload_n 2, 1) := by decide +kernel
theorem dX6_instruction_30 : decode cX6_instruction 30 = .ok (.invokevirtual 121, 3) := by decide +kernel
theorem dX6_instruction_33 : decode cX6_instruction 33 = .ok (.iload_n 3, 1) := by decide +kernel
theorem dX6_instruction_34 : decode cX6_instruction 34 = .ok (.iaload, 1) := by decide +kernel
theorem dX6_instruction_35 : decode cX6_instruction 35 = .ok (.goto 5, 3) := by decide +kernel
theorem dX6_instruction_38 : decode cX6_instruction 38 = .ok (.bipush (-2), 2) := by decide +kernel
theorem dX6_instruction_40 : decode cX6_instruction 40 = .ok (.ireturn, 1) := by decide +kernel
set_option maxRecDepth 20000 in
theorem ggX6_count_X4_size : GoodIn wsX6_count wsX4_size := goodIn_r _ [10, 11, 36, 37, 38, 39, 40] (by decide +kernel) (by decide +kernel)
set_option maxRecDepth 20000 in
theorem gX6_count_X4_size : GoodIn wsX6_count (wsV RX6 125 RX4 yX4_size wsX4_size) := goodIn_app (goodIn_of _ (by decide +kernel)) ggX6_count_X4_size
set_option maxRecDepth 20000 in
theorem ggX6_count_X4_accesses : GoodIn wsX6_count wsX4_accesses := goodIn_r _ [15, 16, 36, 37, 38, 39, 40] (by decide +kernel) (by decide +kernel)
set_option maxRecDepth 20000 in
theorem gX6_count_X4_accesses : GoodIn wsX6_count (wsV RX6 126 RX4 yX4_accesses wsX4_accesses) := goodIn_app (goodIn_of _ (by decide +kernel)) ggX6_count_X4_accesses
set_option maxRecDepth 20000 in
theorem ggX6_count_X4_readers : GoodIn wsX6_count wsX4_readers := goodIn_r _ [20, 21, 36, 37, 38, 39, 40] (by decide +kernel) (by decide +kernel)
set_option maxRecDepth 20000 in
theorem gX6_count_X4_readers : GoodIn wsX6_count (wsV RX6 129 RX4 yX4_readers wsX4_readers) := goodIn_app (goodIn_of _ (by decide +kernel)) ggX6_count_X4_readers
set_option maxRecDepth 20000 in
theorem ggX6_count_X3_size : GoodIn wsX6_count wsX3_size := goodIn_r _ [26, 27, 41, 42] (by decide +kernel) (by decide +kernel)
set_option maxRecDepth 20000 in
theorem gX6_count_X3_size : GoodIn wsX6_count (wsV RX6 71 RX3 yX3_size wsX3_size) := goodIn_app (goodIn_of _ (by decide +kernel)) ggX6_count_X3_size
theorem dX6_count_0 : decode cX6_count 0 = .ok (.iload_n 1, 1) := by decide +kernel
theorem dX6_count_1 : decode cX6_count 1 = .ok (.tableswitch 103 0 5 #[39, 47, 55, 63, 82, 87], 39) := by decide +kernel
theorem dX6_count_40 : decode cX6_count 40 = .ok (.aload_n 0, 1) := by decide +kernel
theorem dX6_count_41 : decode cX6_count 41 = .ok (.getfield 10, 3) := by decide +kernel
theorem dX6_count_44 : decode cX6_count 44 = .ok (.invokevirtual 125, 3) := by decide +kernel
theorem dX6_count_47 : decode cX6_count 47 = .ok (.ireturn, 1) := by decide +kernel
theorem dX6_count_48 : decode cX6_count 48 = .ok (.aload_n 0, 1) := by decide +kernel
theorem dX6_count_49 : decode cX6_count 49 = .ok (.getfield 10, 3) := by decide +kernel
theorem dX6_count_52 : decode cX6_count 52 = .ok (.invokevirtual 126, 3) := by decide +kernel
theorem dX6_count_55 : decode cX6_count 55 = .ok (.ireturn, 1) := by decide +kernel
theorem dX6_count_56 : decode cX6_count 56 = .ok (.aload_n 0, 1) := by decide +kernel
theorem dX6_count_57 : decode cX6_count 57 = .ok (.getfield 10, 3) := by decide +kernel
theorem dX6_count_60 : decode cX6_count 60 = .ok (.invokevirtual 129, 3) := by decide +kernel
theorem dX6_count_63 : decode cX6_count 63 = .ok (.ireturn, 1) := by decide +kernel
theorem dX6_count_64 : decode cX6_count 64 = .ok (.aload_n 0, 1) := by decide +kernel
theorem dX6_count_65 : decode cX6_count 65 = .ok (.getfield 55, 3) := by decide +kernel
theorem dX6_count_68 : decode cX6_count 68 = .ok (.ifCond .eq 13, 3) := by decide +kernel
theorem dX6_count_71 : decode cX6_count 71 = .ok (.aload_n 0, 1) := by decide +kernel
theorem dX6_count_72 : decode cX6_count 72 = .ok (.getfield 35, 3) := by decide +kernel
theorem dX6_count_75 : decode cX6_count 75 = .ok (.invokevirtual 71, 3) := by decide +kernel
theorem dX6_count_78 : decode cX6_count 78 = .ok (.goto 4, 3) := by decide +kernel
theorem dX6_count_81 : decode cX6_count 81 = .ok (.iconst (-1), 1) := by decide +kernel
theorem dX6_count_82 : decode cX6_count 82 = .ok (.ireturn, 1) := by decide +kernel
theorem dX6_count_83 : decode cX6_count 83 = .ok (.aload_n 0, 1) := by decide +kernel
theorem dX6_count_84 : decode cX6_count 84 = .ok (.getfield 48, 3) := by decide +kernel
theorem dX6_count_87 : decode cX6_count 87 = .ok (.ireturn, 1) := by decide +kernel
theorem dX6_count_88 : decode cX6_count 88 = .ok (.aload_n 0, 1) := by decide +kernel
theorem dX6_count_89 : decode cX6_count 89 = .ok (.getfield 55, 3) := by decide +kernel
theorem dX6_count_92 : decode cX6_count 92 = .ok (.ifCond .eq 10, 3) := by decide +kernel
theorem dX6_count_95 : decode cX6_count 95 = .ok (.aload_n 0, 1) := by decide +kernel
theorem dX6_count_96 : decode cX6_count 96 = .ok (.getfield 52, 3) := by decide +kernel
theorem dX6_count_99 : decode cX6_count 99 = .ok (.goto 4, 3) := by decide +kernel
theorem dX6_count_102 : decode cX6_count 102 = .ok (.iconst (-1), 1) := by decide +kernel
theorem dX6_count_103 : decode cX6_count 103 = .ok (.ireturn, 1) := by decide +kernel
theorem dX6_count_104 : decode cX6_count 104 = .ok (.bipush (-2), 2) := by decide +kernel
theorem dX6_count_106 : decode cX6_count 106 = .ok (.ireturn, 1) := by decide +kernel
theorem dX6_isPart_0 : decode cX6_isPart 0 = .ok (.iload_n 0, 1) := by decide +kernel
theorem dX6_isPart_1 : decode cX6_isPart 1 = .ok (.ifCond .lt 13, 3) := by decide +kernel
theorem dX6_isPart_4 : decode cX6_isPart 4 = .ok (.iload_n 0, 1) := by decide +kernel
theorem dX6_isPart_5 : decode cX6_isPart 5 = .ok (.bipush 19, 2) := by decide +kernel
theorem dX6_isPart_7 : decode cX6_isPart 7 = .ok (.if_icmp .ge 7, 3) := by decide +kernel
theorem dX6_isPart_10 : decode cX6_isPart 10 = .ok (.iconst 1, 1) := by decide +kernel
theorem dX6_isPart_11 : decode cX6_isPart 11 = .ok (.goto 4, 3) := by decide +kernel
theorem dX6_isPart_14 : decode cX6_isPart 14 = .ok (.iconst 0, 1) := by decide +kernel
theorem dX6_isPart_15 : decode cX6_isPart 15 = .ok (.ireturn, 1) := by decide +kernel
theorem dX6_isValue_0 : decode cX6_isValue 0 = .ok (.iload_n 0, 1) := by decide +kernel
theorem dX6_isValue_1 : decode cX6_isValue 1 = .ok (.ifCond .lt 12, 3) := by decide +kernel
theorem dX6_isValue_4 : decode cX6_isValue 4 = .ok (.iload_n 0, 1) := by decide +kernel
theorem dX6_isValue_5 : decode cX6_isValue 5 = .ok (.iconst 4, 1) := by decide +kernel
theorem dX6_isValue_6 : decode cX6_isValue 6 = .ok (.if_icmp .ge 7, 3) := by decide +kernel
theorem dX6_isValue_9 : decode cX6_isValue 9 = .ok (.iconst 1, 1) := by decide +kernel
theorem dX6_isValue_10 : decode cX6_isValue 10 = .ok (.goto 4, 3) := by decide +kernel
theorem dX6_isValue_13 : decode cX6_isValue 13 = .ok (.iconst 0, 1) := by decide +kernel
theorem dX6_isValue_14 : decode cX6_isValue 14 = .ok (.ireturn, 1) := by decide +kernel
theorem dX6_isReader_0 : decode cX6_isReader 0 = .ok (.iload_n 0, 1) := by decide +kernel
theorem dX6_isReader_1 : decode cX6_isReader 1 = .ok (.ifCond .eq 18, 3) := by decide +kernel
theorem dX6_isReader_4 : decode cX6_isReader 4 = .ok (.iload_n 0, 1) := by decide +kernel
theorem dX6_isReader_5 : decode cX6_isReader 5 = .ok (.iconst 2, 1) := by decide +kernel
theorem dX6_isReader_6 : decode cX6_isReader 6 = .ok (.if_icmp .eq 13, 3) := by decide +kernel
theorem dX6_isReader_9 : decode cX6_isReader 9 = .ok (.iload_n 0, 1) := by decide +kernel
theorem dX6_isReader_10 : decode cX6_isReader 10 = .ok (.iconst 3, 1) := by decide +kernel
theorem dX6_isReader_11 : decode cX6_isReader 11 = .ok (.if_icmp .eq 8, 3) := by decide +kernel
theorem dX6_isReader_14 : decode cX6_isReader 14 = .ok (.iload_n 0, 1) := by decide +kernel
theorem dX6_isReader_15 : decode cX6_isReader 15 = .ok (.iconst 4, 1) := by decide +kernel
theorem dX6_isReader_16 : decode cX6_isReader 16 = .ok (.if_icmp .ne 7, 3) := by decide +kernel
theorem dX6_isReader_19 : decode cX6_isReader 19 = .ok (.iconst 1, 1) := by decide +kernel
theorem dX6_isReader_20 : decode cX6_isReader 20 = .ok (.goto 4, 3) := by decide +kernel
theorem dX6_isReader_23 : decode cX6_isReader 23 = .ok (.iconst 0, 1) := by decide +kernel
theorem dX6_isReader_24 : decode cX6_isReader 24 = .ok (.ireturn, 1) := by decide +kernel
theorem dX6_isWriter_0 : decode cX6_isWriter 0 = .ok (.iload_n 0, 1) := by decide +kernel
theorem dX6_isWriter_1 : decode cX6_isWriter 1 = .ok (.iconst 1, 1) := by decide +kernel
theorem dX6_isWriter_2 : decode cX6_isWriter 2 = .ok (.if_icmp .eq 18, 3) := by decide +kernel
theorem dX6_isWriter_5 : decode cX6_isWriter 5 = .ok (.iload_n 0, 1) := by decide +kernel
theorem dX6_isWriter_6 : decode cX6_isWriter 6 = .ok (.iconst 2, 1) := by decide +kernel
theorem dX6_isWriter_7 : decode cX6_isWriter 7 = .ok (.if_icmp .eq 13, 3) := by decide +kernel
theorem dX6_isWriter_10 : decode cX6_isWriter 10 = .ok (.iload_n 0, 1) := by decide +kernel
theorem dX6_isWriter_11 : decode cX6_isWriter 11 = .ok (.iconst 3, 1) := by decide +kernel
theorem dX6_isWriter_12 : decode cX6_isWriter 12 = .ok (.if_icmp .eq 8, 3) := by decide +kernel
theorem dX6_isWriter_15 : decode cX6_isWriter 15 = .ok (.iload_n 0, 1) := by decide +kernel
theorem dX6_isWriter_16 : decode cX6_isWriter 16 = .ok (.iconst 5, 1) := by decide +kernel
theorem dX6_isWriter_17 : decode cX6_isWriter 17 = .ok (.if_icmp .ne 7, 3) := by decide +kernel
theorem dX6_isWriter_20 : decode cX6_isWriter 20 = .ok (.iconst 1, 1) := by decide +kernel
theorem dX6_isWriter_21 : decode cX6_isWriter 21 = .ok (.goto 4, 3) := by decide +kernel
theorem dX6_isWriter_24 : decode cX6_isWriter 24 = .ok (.iconst 0, 1) := by decide +kernel
theorem dX6_isWriter_25 : decode cX6_isWriter 25 = .ok (.ireturn, 1) := by decide +kernel
set_option maxRecDepth 20000 in
theorem ggX6_isAccess_X6_isReader : GoodIn wsX6_isAccess wsX6_isReader := goodIn_r _ [4] (by decide +kernel) (by decide +kernel)
set_option maxRecDepth 20000 in
theorem gX6_isAccess_X6_isReader : GoodIn wsX6_isAccess (va_wsS RX6 132 yX6_isReader wsX6_isReader) := goodIn_app (goodIn_of _ (by decide +kernel)) ggX6_isAccess_X6_isReader
set_option maxRecDepth 20000 in
theorem ggX6_isAccess_X6_isWriter : GoodIn wsX6_isAccess wsX6_isWriter := goodIn_r _ [7] (by decide +kernel) (by decide +kernel)
set_option maxRecDepth 20000 in
theorem gX6_isAccess_X6_isWriter : GoodIn wsX6_isAccess (va_wsS RX6 135 yX6_isWriter wsX6_isWriter) := goodIn_app (goodIn_of _ (by decide +kernel)) ggX6_isAccess_X6_isWriter
theorem dX6_isAccess_0 : decode cX6_isAccess 0 = .ok (.iload_n 0, 1) := by decide +kernel
theorem dX6_isAccess_1 : decode cX6_isAccess 1 = .ok (.invokestatic 132, 3) := by decide +kernel
theorem dX6_isAccess_4 : decode cX6_isAccess 4 = .ok (.ifCond .ne 10, 3) := by decide +kernel
theorem dX6_isAccess_7 : decode cX6_isAccess 7 = .ok (.iload_n 0, 1) := by decide +kernel
theorem dX6_isAccess_8 : decode cX6_isAccess 8 = .ok (.invokestatic 135, 3) := by decide +kernel
theorem dX6_isAccess_11 : decode cX6_isAccess 11 = .ok (.ifCond .eq 7, 3) := by decide +kernel
theorem dX6_isAccess_14 : decode cX6_isAccess 14 = .ok (.iconst 1, 1) := by decide +kernel
theorem dX6_isAccess_15 : decode cX6_isAccess 15 = .ok (.goto 4, 3) := by decide +kernel
theorem dX6_isAccess_18 : decode cX6_isAccess 18 = .ok (.iconst 0, 1) := by decide +kernel
theorem dX6_isAccess_19 : decode cX6_isAccess 19 = .ok (.ireturn, 1) := by decide +kernel
theorem dX7_init_0 : decode cX7_init 0 = .ok (.aload_n 0, 1) := by decide +kernel
theorem dX7_init_1 : decode cX7_init 1 = .ok (.invokespecial 1, 3) := by decide +kernel
theorem dX7_init_4 : decode cX7_init 4 = .ok (.aload_n 0, 1) := by decide +kernel
theorem dX7_init_5 : decode cX7_init 5 = .ok (.sipush 144, 3) := by decide +kernel
theorem dX7_init_8 : decode cX7_init 8 = .ok (.newarray .int, 2) := by decide +kernel
theorem dX7_init_10 : decode cX7_init 10 = .ok (.putfield 7, 3) := by decide +kernel
theorem dX7_init_13 : decode cX7_init 13 = .ok (.aload_n 0, 1) := by decide +kernel
theorem dX7_init_14 : decode cX7_init 14 = .ok (.iconst 4, 1) := by decide +kernel
theorem dX7_init_15 : decode cX7_init 15 = .ok (.newarray .int, 2) := by decide +kernel
theorem dX7_init_17 : decode cX7_init 17 = .ok (.putfield 13, 3) := by decide +kernel
theorem dX7_init_20 : decode cX7_init 20 = .ok (.aload_n 0, 1) := by decide +kernel
theorem dX7_init_21 : decode cX7_init 21 = .ok (.ldc 16, 2) := by decide +kernel
theorem dX7_init_23 : decode cX7_init 23 = .ok (.newarray .long, 2) := by decide +kernel
theorem dX7_init_25 : decode cX7_init 25 = .ok (.putfield 17, 3) := by decide +kernel
theorem dX7_init_28 : decode cX7_init 28 = .ok (.aload_n 0, 1) := by decide +kernel
theorem dX7_init_29 : decode cX7_init 29 = .ok (.bipush 64, 2) := by decide +kernel
theorem dX7_init_31 : decode cX7_init 31 = .ok (.newarray .int, 2) := by decide +kernel
theorem dX7_init_33 : decode cX7_init 33 = .ok (.putfield 21, 3) := by decide +kernel
theorem dX7_init_36 : decode cX7_init 36 = .ok (.aload_n 0, 1) := by decide +kernel
theorem dX7_init_37 : decode cX7_init 37 = .ok (.bipush 64, 2) := by decide +kernel
theorem dX7_init_39 : decode cX7_init 39 = .ok (.newarray .int, 2) := by decide +kernel
theorem dX7_init_41 : decode cX7_init 41 = .ok (.putfield 24, 3) := by decide +kernel
theorem dX7_init_44 : decode cX7_init 44 = .ok (.aload_n 0, 1) := by decide +kernel
theorem dX7_init_45 : decode cX7_init 45 = .ok (.bipush 16, 2) := by decide +kernel
theorem dX7_init_47 : decode cX7_init 47 = .ok (.newarray .int, 2) := by decide +kernel
theorem dX7_init_49 : decode cX7_init 49 = .ok (.putfield 27, 3) := by decide +kernel
theorem dX7_init_52 : decode cX7_init 52 = .ok (.aload_n 0, 1) := by decide +kernel
theorem dX7_init_53 : decode cX7_init 53 = .ok (.bipush 16, 2) := by decide +kernel
theorem dX7_init_55 : decode cX7_init 55 = .ok (.newarray .int, 2) := by decide +kernel
theorem dX7_init_57 : decode cX7_init 57 = .ok (.putfield 30, 3) := by decide +kernel
theorem dX7_init_60 : decode cX7_init 60 = .ok (.aload_n 0, 1) := by decide +kernel
theorem dX7_init_61 : decode cX7_init 61 = .ok (.bipush 6, 2) := by decide +kernel
theorem dX7_init_63 : decode cX7_init 63 = .ok (.newarray .int, 2) := by decide +kernel
theorem dX7_init_65 : decode cX7_init 65 = .ok (.putfield 33, 3) := by decide +kernel
theorem dX7_init_68 : decode cX7_init 68 = .ok (.aload_n 0, 1) := by decide +kernel
theorem dX7_init_69 : decode cX7_init 69 = .ok (.bipush 6, 2) := by decide +kernel
theorem dX7_init_71 : decode cX7_init 71 = .ok (.newarray .int, 2) := by decide +kernel
theorem dX7_init_73 : decode cX7_init 73 = .ok (.putfield 36, 3) := by decide +kernel
theorem dX7_init_76 : decode cX7_init 76 = .ok (.aload_n 0, 1) := by decide +kernel
theorem dX7_init_77 : decode cX7_init 77 = .ok (.bipush 6, 2) := by decide +kernel
theorem dX7_init_79 : decode cX7_init 79 = .ok (.newarray .int, 2) := by decide +kernel
theorem dX7_init_81 : decode cX7_init 81 = .ok (.putfield 39, 3) := by decide +kernel
theorem dX7_init_84 : decode cX7_init 84 = .ok (.aload_n 0, 1) := by decide +kernel
theorem dX7_init_85 : decode cX7_init 85 = .ok (.bipush 6, 2) := by decide +kernel
theorem dX7_init_87 : decode cX7_init 87 = .ok (.newarray .int, 2) := by decide +kernel
theorem dX7_init_89 : decode cX7_init 89 = .ok (.putfield 42, 3) := by decide +kernel
theorem dX7_init_92 : decode cX7_init 92 = .ok (.aload_n 0, 1) := by decide +kernel
theorem dX7_init_93 : decode cX7_init 93 = .ok (.bipush 6, 2) := by decide +kernel
theorem dX7_init_95 : decode cX7_init 95 = .ok (.newarray .int, 2) := by decide +kernel
theorem dX7_init_97 : decode cX7_init 97 = .ok (.putfield 45, 3) := by decide +kernel
theorem dX7_init_100 : decode cX7_init 100 = .ok (.aload_n 0, 1) := by decide +kernel
theorem dX7_init_101 : decode cX7_init 101 = .ok (.bipush 6, 2) := by decide +kernel
theorem dX7_init_103 : decode cX7_init 103 = .ok (.newarray .int, 2) := by decide +kernel
theorem dX7_init_105 : decode cX7_init 105 = .ok (.putfield 48, 3) := by decide +kernel
theorem dX7_init_108 : decode cX7_init 108 = .ok (.aload_n 0, 1) := by decide +kernel
theorem dX7_init_109 : decode cX7_init 109 = .ok (.bipush 6, 2) := by decide +kernel
theorem dX7_init_111 : decode cX7_init 111 = .ok (.newarray .int, 2) := by decide +kernel
theorem dX7_init_113 : decode cX7_init 113 = .ok (.putfield 51, 3) := by decide +kernel
theorem dX7_init_116 : decode cX7_init 116 = .ok (.aload_n 0, 1) := by decide +kernel
theorem dX7_init_117 : decode cX7_init 117 = .ok (.bipush 6, 2) := by decide +kernel
theorem dX7_init_119 : decode cX7_init 119 = .ok (.newarray .int, 2) := by decide +kernel
theorem dX7_init_121 : decode cX7_init 121 = .ok (.putfield 54, 3) := by decide +kernel
theorem dX7_init_124 : decode cX7_init 124 = .ok (.aload_n 0, 1) := by decide +kernel
theorem dX7_init_125 : decode cX7_init 125 = .ok (.bipush 6, 2) := by decide +kernel
theorem dX7_init_127 : decode cX7_init 127 = .ok (.newarray .int, 2) := by decide +kernel
theorem dX7_init_129 : decode cX7_init 129 = .ok (.putfield 57, 3) := by decide +kernel
theorem dX7_init_132 : decode cX7_init 132 = .ok (.aload_n 0, 1) := by decide +kernel
theorem dX7_init_133 : decode cX7_init 133 = .ok (.bipush 6, 2) := by decide +kernel
theorem dX7_init_135 : decode cX7_init 135 = .ok (.newarray .int, 2) := by decide +kernel
theorem dX7_init_137 : decode cX7_init 137 = .ok (.putfield 60, 3) := by decide +kernel
theorem dX7_init_140 : decode cX7_init 140 = .ok (.aload_n 0, 1) := by decide +kernel
theorem dX7_init_141 : decode cX7_init 141 = .ok (.bipush 24, 2) := by decide +kernel
theorem dX7_init_143 : decode cX7_init 143 = .ok (.newarray .int, 2) := by decide +kernel
theorem dX7_init_145 : decode cX7_init 145 = .ok (.putfield 63, 3) := by decide +kernel
theorem dX7_init_148 : decode cX7_init 148 = .ok (.aload_n 0, 1) := by decide +kernel
theorem dX7_init_149 : decode cX7_init 149 = .ok (.bipush 24, 2) := by decide +kernel
theorem dX7_init_151 : decode cX7_init 151 = .ok (.newarray .int, 2) := by decide +kernel
theorem dX7_init_153 : decode cX7_init 153 = .ok (.putfield 66, 3) := by decide +kernel
theorem dX7_init_156 : decode cX7_init 156 = .ok (.aload_n 0, 1) := by decide +kernel
theorem dX7_init_157 : decode cX7_init 157 = .ok (.bipush 24, 2) := by decide +kernel
theorem dX7_init_159 : decode cX7_init 159 = .ok (.newarray .int, 2) := by decide +kernel
theorem dX7_init_161 : decode cX7_init 161 = .ok (.putfield 69, 3) := by decide +kernel
theorem dX7_init_164 : decode cX7_init 164 = .ok (.aload_n 0, 1) := by decide +kernel
theorem dX7_init_165 : decode cX7_init 165 = .ok (.bipush 24, 2) := by decide +kernel
theorem dX7_init_167 : decode cX7_init 167 = .ok (.newarray .int, 2) := by decide +kernel
theorem dX7_init_169 : decode cX7_init 169 = .ok (.putfield 72, 3) := by decide +kernel
theorem dX7_init_172 : decode cX7_init 172 = .ok (.aload_n 0, 1) := by decide +kernel
theorem dX7_init_173 : decode cX7_init 173 = .ok (.bipush 36, 2) := by decide +kernel
theorem dX7_init_175 : decode cX7_init 175 = .ok (.newarray .boolean, 2) := by decide +kernel
theorem dX7_init_177 : decode cX7_init 177 = .ok (.putfield 75, 3) := by decide +kernel
theorem dX7_init_180 : decode cX7_init 180 = .ok (.aload_n 0, 1) := by decide +kernel
theorem dX7_init_181 : decode cX7_init 181 = .ok (.bipush 6, 2) := by decide +kernel
theorem dX7_init_183 : decode cX7_init 183 = .ok (.newarray .int, 2) := by decide +kernel
theorem dX7_init_185 : decode cX7_init 185 = .ok (.putfield 79, 3) := by decide +kernel
theorem dX7_init_188 : decode cX7_init 188 = .ok (.aload_n 0, 1) := by decide +kernel
theorem dX7_init_189 : decode cX7_init 189 = .ok (.bipush 6, 2) := by decide +kernel
theorem dX7_init_191 : decode cX7_init 191 = .ok (.newarray .int, 2) := by decide +kernel
theorem dX7_init_193 : decode cX7_init 193 = .ok (.putfield 82, 3) := by decide +kernel
theorem dX7_init_196 : decode cX7_init 196 = .ok (.aload_n 0, 1) := by decide +kernel
theorem dX7_init_197 : decode cX7_init 197 = .ok (.bipush 6, 2) := by decide +kernel
theorem dX7_init_199 : decode cX7_init 199 = .ok (.newarray .int, 2) := by decide +kernel
theorem dX7_init_201 : decode cX7_init 201 = .ok (.putfield 85, 3) := by decide +kernel
theorem dX7_init_204 : decode cX7_init 204 = .ok (.aload_n 0, 1) := by decide +kernel
theorem dX7_init_205 : decode cX7_init 205 = .ok (.iconst 0, 1) := by decide +kernel
theorem dX7_init_206 : decode cX7_init 206 = .ok (.putfield 88, 3) := by decide +kernel
theorem dX7_init_209 : decode cX7_init 209 = .ok (.return_, 1) := by decide +kernel
theorem dX7_in_0 : decode cX7_in 0 = .ok (.iload_n 0, 1) := by decide +kernel
theorem dX7_in_1 : decode cX7_in 1 = .ok (.iload_n 1, 1) := by decide +kernel
theorem dX7_in_2 : decode cX7_in 2 = .ok (.if_icmp .lt 12, 3) := by decide +kernel
theorem dX7_in_5 : decode cX7_in 5 = .ok (.iload_n 0, 1) := by decide +kernel
theorem dX7_in_6 : decode cX7_in 6 = .ok (.iload_n 2, 1) := by decide +kernel
theorem dX7_in_7 : decode cX7_in 7 = .ok (.if_icmp .gt 7, 3) := by decide +kernel
theorem dX7_in_10 : decode cX7_in 10 = .ok (.iconst 1, 1) := by decide +kernel
theorem dX7_in_11 : decode cX7_in 11 = .ok (.goto 4, 3) := by decide +kernel
theorem dX7_in_14 : decode cX7_in 14 = .ok (.iconst 0, 1) := by decide +kernel
theorem dX7_in_15 : decode cX7_in 15 = .ok (.ireturn, 1) := by decide +kernel
theorem dX7_clear_0 : decode cX7_clear 0 = .ok (.iconst 0, 1) := by decide +kernel
theorem dX7_clear_1 : decode cX7_clear 1 = .ok (.istore_n 1, 1) := by decide +kernel
theorem dX7_clear_2 : decode cX7_clear 2 = .ok (.iconst 0, 1) := by decide +kernel
theorem dX7_clear_3 : decode cX7_clear 3 = .ok (.istore_n 2, 1) := by decide +kernel
theorem dX7_clear_4 : decode cX7_clear 4 = .ok (.iload_n 2, 1) := by decide +kernel
theorem dX7_clear_5 : decode cX7_clear 5 = .ok (.iconst 4, 1) := by decide +kernel
theorem dX7_clear_6 : decode cX7_clear 6 = .ok (.if_icmp .ge 25, 3) := by decide +kernel
theorem dX7_clear_9 : decode cX7_clear 9 = .ok (.iload_n 1, 1) := by decide +kernel
theorem dX7_clear_10 : decode cX7_clear 10 = .ok (.aload_n 0, 1) := by decide +kernel
theorem dX7_clear_11 : decode cX7_clear 11 = .ok (.getfield 13, 3) := by decide +kernel
theorem dX7_clear_14 : decode cX7_clear 14 = .ok (.iload_n 2, 1) := by decide +kernel
theorem dX7_clear_15 : decode cX7_clear 15 = .ok (.iaload, 1) := by decide +kernel
theorem dX7_clear_16 : decode cX7_clear 16 = .ok (.iadd, 1) := by decide +kernel
theorem dX7_clear_17 : decode cX7_clear 17 = .ok (.istore_n 1, 1) := by decide +kernel
theorem dX7_clear_18 : decode cX7_clear 18 = .ok (.aload_n 0, 1) := by decide +kernel
theorem dX7_clear_19 : decode cX7_clear 19 = .ok (.getfield 13, 3) := by decide +kernel
theorem dX7_clear_22 : decode cX7_clear 22 = .ok (.iload_n 2, 1) := by decide +kernel
theorem dX7_clear_23 : decode cX7_clear 23 = .ok (.iconst 0, 1) := by decide +kernel
theorem dX7_clear_24 : decode cX7_clear 24 = .ok (.iastore, 1) := by decide +kernel
theorem dX7_clear_25 : decode cX7_clear 25 = .ok (.iinc 2 1, 3) := by decide +kernel
theorem dX7_clear_28 : decode cX7_clear 28 = .ok (.goto (-24), 3) := by decide +kernel
theorem dX7_clear_31 : decode cX7_clear 31 = .ok (.aload_n 0, 1) := by decide +kernel
theorem dX7_clear_32 : decode cX7_clear 32 = .ok (.iconst 0, 1) := by decide +kernel
theorem dX7_clear_33 : decode cX7_clear 33 = .ok (.putfield 92, 3) := by decide +kernel
theorem dX7_clear_36 : decode cX7_clear 36 = .ok (.iload_n 1, 1) := by decide +kernel
theorem dX7_clear_37 : decode cX7_clear 37 = .ok (.ireturn, 1) := by decide +kernel
set_option maxRecDepth 20000 in
theorem ggX7_model_X7_in : GoodIn wsX7_model wsX7_in := goodIn_r _ [6] (by decide +kernel) (by decide +kernel)
set_option maxRecDepth 20000 in
theorem gX7_model_X7_in : GoodIn wsX7_model (va_wsS RX7 96 yX7_in wsX7_in) := goodIn_app (goodIn_of _ (by decide +kernel)) ggX7_model_X7_in
theorem dX7_model_0 : decode cX7_model 0 = .ok (.iload_n 1, 1) := by decide +kernel
theorem dX7_model_1 : decode cX7_model 1 = .ok (.iconst 0, 1) := by decide +kernel
theorem dX7_model_2 : decode cX7_model 2 = .ok (.iconst 2, 1) := by decide +kernel
theorem dX7_model_3 : decode cX7_model 3 = .ok (.invokestatic 96, 3) := by decide +kernel
theorem dX7_model_6 : decode cX7_model 6 = .ok (.ifCond .ne 6, 3) := by decide +kernel
theorem dX7_model_9 : decode cX7_model 9 = .ok (.bipush (-2), 2) := by decide +kernel
theorem dX7_model_11 : decode cX7_model 11 = .ok (.ireturn, 1) := by decide +kernel
theorem dX7_model_12 : decode cX7_model 12 = .ok (.aload_n 0, 1) := by decide +kernel
theorem dX7_model_13 : decode cX7_model 13 = .ok (.getfield 88, 3) := by decide +kernel
theorem dX7_model_16 : decode cX7_model 16 = .ok (.istore_n 2, 1) := by decide +kernel
theorem dX7_model_17 : decode cX7_model 17 = .ok (.aload_n 0, 1) := by decide +kernel
theorem dX7_model_18 : decode cX7_model 18 = .ok (.iload_n 1, 1) := by decide +kernel
theorem dX7_model_19 : decode cX7_model 19 = .ok (.putfield 88, 3) := by decide +kernel
theorem dX7_model_22 : decode cX7_model 22 = .ok (.aload_n 0, 1) := by decide +kernel
theorem dX7_model_23 : decode cX7_model 23 = .ok (.iconst 0, 1) := by decide +kernel
theorem dX7_model_24 : decode cX7_model 24 = .ok (.putfield 92, 3) := by decide +kernel
theorem dX7_model_27 : decode cX7_model 27 = .ok (.iload_n 2, 1) := by decide +kernel
theorem dX7_model_28 : decode cX7_model 28 = .ok (.ireturn, 1) := by decide +kernel
set_option maxRecDepth 20000 in
theorem ggX7_isRegister_X7_in : GoodIn wsX7_isRegister wsX7_in := goodIn_r _ [4] (by decide +kernel) (by decide +kernel)
set_option maxRecDepth 20000 in
theorem gX7_isRegister_X7_in : GoodIn wsX7_isRegister (va_wsS RX7 96 yX7_in wsX7_in) := goodIn_app (goodIn_of _ (by decide +kernel)) ggX7_isRegister_X7_in
theorem dX7_isRegister_0 : decode cX7_isRegister 0 = .ok (.iload_n 0, 1) := by decide +kernel
theorem dX7_isRegister_1 : decode cX7_isRegister 1 = .ok (.iconst 0, 1) := by decide +kernel
theorem dX7_isRegister_2 : decode cX7_isRegister 2 = .ok (.iconst 3, 1) := by decide +kernel
theorem dX7_isRegister_3 : decode cX7_isRegister 3 = .ok (.invokestatic 96, 3) := by decide +kernel
theorem dX7_isRegister_6 : decode cX7_isRegister 6 = .ok (.ireturn, 1) := by decide +kernel
set_option maxRecDepth 20000 in
theorem ggX7_isPlace_X7_in : GoodIn wsX7_isPlace wsX7_in := goodIn_r _ [4] (by decide +kernel) (by decide +kernel)
set_option maxRecDepth 20000 in
theorem gX7_isPlace_X7_in : GoodIn wsX7_isPlace (va_wsS RX7 96 yX7_in wsX7_in) := goodIn_app (goodIn_of _ (by decide +kernel)) ggX7_isPlace_X7_in
theorem dX7_isPlace_0 : decode cX7_isPlace 0 = .ok (.iload_n 0, 1) := by decide +kernel
theorem dX7_isPlace_1 : decode cX7_isPlace 1 = .ok (.iconst 0, 1) := by decide +kernel
theorem dX7_isPlace_2 : decode cX7_isPlace 2 = .ok (.iconst 2, 1) := by decide +kernel
theorem dX7_isPlace_3 : decode cX7_isPlace 3 = .ok (.invokestatic 96, 3) := by decide +kernel
theorem dX7_isPlace_6 : decode cX7_isPlace 6 = .ok (.ifCond .eq 16, 3) := by decide +kernel
theorem dX7_isPlace_9 : decode cX7_isPlace 9 = .ok (.iload_n 1, 1) := by decide +kernel
theorem dX7_isPlace_10 : decode cX7_isPlace 10 = .ok (.iconst (-1), 1) := by decide +kernel
theorem dX7_isPlace_11 : decode cX7_isPlace 11 = .ok (.iconst 3, 1) := by decide +kernel
theorem dX7_isPlace_12 : decode cX7_isPlace 12 = .ok (.invokestatic 96, 3) := by decide +kernel
theorem dX7_isPlace_15 : decode cX7_isPlace 15 = .ok (.ifCond .eq 7, 3) := by decide +kernel
theorem dX7_isPlace_18 : decode cX7_isPlace 18 = .ok (.iconst 1, 1) := by decide +kernel
theorem dX7_isPlace_19 : decode cX7_isPlace 19 = .ok (.goto 4, 3) := by decide +kernel
theorem dX7_isPlace_22 : decode cX7_isPlace 22 = .ok (.iconst 0, 1) := by decide +kernel
theorem dX7_isPlace_23 : decode cX7_isPlace 23 = .ok (.ireturn, 1) := by decide +kernel
set_option maxRecDepth 20000 in
theorem ggX7_isGood_X7_isRegister : GoodIn wsX7_isGood wsX7_isRegister := goodIn_r _ [4, 5, 6, 3, 7] (by decide +kernel) (by decide +kernel)
set_option maxRecDepth 20000 in
theorem gX7_isGood_X7_isRegister : GoodIn wsX7_isGood (va_wsS RX7 100 yX7_isRegister wsX7_isRegister) := goodIn_app (goodIn_of _ (by decide +kernel)) ggX7_isGood_X7_isRegister
set_option maxRecDepth 20000 in
theorem ggX7_isGood_X7_isPlace : GoodIn wsX7_isGood wsX7_isPlace := goodIn_r _ [10, 5, 6, 3, 7] (by decide +kernel) (by decide +kernel)
set_option maxRecDepth 20000 in
theorem gX7_isGood_X7_isPlace : GoodIn wsX7_isGood (va_wsS RX7 104 yX7_isPlace wsX7_isPlace) := goodIn_app (goodIn_of _ (by decide +kernel)) ggX7_isGood_X7_isPlace
set_option maxRecDepth 20000 in
theorem ggX7_isGood_X7_in : GoodIn wsX7_isGood wsX7_in := goodIn_r _ [7] (by decide +kernel) (by decide +kernel)
set_option maxRecDepth 20000 in
theorem gX7_isGood_X7_in : GoodIn wsX7_isGood (va_wsS RX7 96 yX7_in wsX7_in) := goodIn_app (goodIn_of _ (by decide +kernel)) ggX7_isGood_X7_in
theorem dX7_isGood_0 : decode cX7_isGood 0 = .ok (.iload_n 0, 1) := by decide +kernel
theorem dX7_isGood_1 : decode cX7_isGood 1 = .ok (.tableswitch 241 0 10 #[59, 97, 129, 129, 59, 129, 168, 168, 192, 192, 219], 59) := by decide +kernel
theorem dX7_isGood_60 : decode cX7_isGood 60 = .ok (.iload_n 1, 1) := by decide +kernel
theorem dX7_isGood_61 : decode cX7_isGood 61 = .ok (.invokestatic 100, 3) := by decide +kernel
theorem dX7_isGood_64 : decode cX7_isGood 64 = .ok (.ifCond .eq 32, 3) := by decide +kernel
