theorem dX7_nextOrder_129 : decode cX7_nextOrder 129 = .ok (.aload_n 0, 1) := by decide +kernel
theorem dX7_nextOrder_130 : decode cX7_nextOrder 130 = .ok (.getfield 79, 3) := by decide +kernel
theorem dX7_nextOrder_133 : decode cX7_nextOrder 133 = .ok (.iload 5, 2) := by decide +kernel
theorem dX7_nextOrder_135 : decode cX7_nextOrder 135 = .ok (.iaload, 1) := by decide +kernel
theorem dX7_nextOrder_136 : decode cX7_nextOrder 136 = .ok (.iastore, 1) := by decide +kernel
theorem dX7_nextOrder_137 : decode cX7_nextOrder 137 = .ok (.aload_n 0, 1) := by decide +kernel
theorem dX7_nextOrder_138 : decode cX7_nextOrder 138 = .ok (.getfield 79, 3) := by decide +kernel
theorem dX7_nextOrder_141 : decode cX7_nextOrder 141 = .ok (.iload 5, 2) := by decide +kernel
theorem dX7_nextOrder_143 : decode cX7_nextOrder 143 = .ok (.iload 6, 2) := by decide +kernel
theorem dX7_nextOrder_145 : decode cX7_nextOrder 145 = .ok (.iastore, 1) := by decide +kernel
theorem dX7_nextOrder_146 : decode cX7_nextOrder 146 = .ok (.iinc 4 1, 3) := by decide +kernel
theorem dX7_nextOrder_149 : decode cX7_nextOrder 149 = .ok (.iinc 5 (-1), 3) := by decide +kernel
theorem dX7_nextOrder_152 : decode cX7_nextOrder 152 = .ok (.goto (-45), 3) := by decide +kernel
theorem dX7_nextOrder_155 : decode cX7_nextOrder 155 = .ok (.iconst 1, 1) := by decide +kernel
theorem dX7_nextOrder_156 : decode cX7_nextOrder 156 = .ok (.ireturn, 1) := by decide +kernel
set_option maxRecDepth 20000 in
theorem ggX7_reckon_X7_writes : GoodIn wsX7_reckon wsX7_writes := goodIn_r _ [10, 11, 12, 13, 9, 14, 15, 16, 17, 18, 19, 20, 21, 22, 23, 24, 25, 26, 27, 28, 29, 30, 31, 32, 33, 34, 35, 36, 37, 38, 39, 40, 41, 42, 43, 44, 45, 46, 47, 48, 49] (by decide +kernel) (by decide +kernel)
set_option maxRecDepth 20000 in
theorem gX7_reckon_X7_writes : GoodIn wsX7_reckon (wsV RX7 157 RX7 yX7_writes wsX7_writes) := goodIn_app (goodIn_of _ (by decide +kernel)) ggX7_reckon_X7_writes
theorem dX7_reckon_0 : decode cX7_reckon 0 = .ok (.lconst 0, 1) := by decide +kernel
theorem dX7_reckon_1 : decode cX7_reckon 1 = .ok (.lstore_n 1, 1) := by decide +kernel
theorem dX7_reckon_2 : decode cX7_reckon 2 = .ok (.iconst 0, 1) := by decide +kernel
theorem dX7_reckon_3 : decode cX7_reckon 3 = .ok (.istore_n 3, 1) := by decide +kernel
theorem dX7_reckon_4 : decode cX7_reckon 4 = .ok (.iload_n 3, 1) := by decide +kernel
theorem dX7_reckon_5 : decode cX7_reckon 5 = .ok (.bipush 16, 2) := by decide +kernel
theorem dX7_reckon_7 : decode cX7_reckon 7 = .ok (.if_icmp .ge 23, 3) := by decide +kernel
theorem dX7_reckon_10 : decode cX7_reckon 10 = .ok (.lload_n 1, 1) := by decide +kernel
theorem dX7_reckon_11 : decode cX7_reckon 11 = .ok (.aload_n 0, 1) := by decide +kernel
theorem dX7_reckon_12 : decode cX7_reckon 12 = .ok (.getfield 27, 3) := by decide +kernel
theorem dX7_reckon_15 : decode cX7_reckon 15 = .ok (.iload_n 3, 1) := by decide +kernel
theorem dX7_reckon_16 : decode cX7_reckon 16 = .ok (.iaload, 1) := by decide +kernel
theorem dX7_reckon_17 : decode cX7_reckon 17 = .ok (.i2l, 1) := by decide +kernel
theorem dX7_reckon_18 : decode cX7_reckon 18 = .ok (.iconst 2, 1) := by decide +kernel
theorem dX7_reckon_19 : decode cX7_reckon 19 = .ok (.iload_n 3, 1) := by decide +kernel
theorem dX7_reckon_20 : decode cX7_reckon 20 = .ok (.imul, 1) := by decide +kernel
theorem dX7_reckon_21 : decode cX7_reckon 21 = .ok (.lshl, 1) := by decide +kernel
theorem dX7_reckon_22 : decode cX7_reckon 22 = .ok (.lor, 1) := by decide +kernel
theorem dX7_reckon_23 : decode cX7_reckon 23 = .ok (.lstore_n 1, 1) := by decide +kernel
theorem dX7_reckon_24 : decode cX7_reckon 24 = .ok (.iinc 3 1, 3) := by decide +kernel
theorem dX7_reckon_27 : decode cX7_reckon 27 = .ok (.goto (-23), 3) := by decide +kernel
theorem dX7_reckon_30 : decode cX7_reckon 30 = .ok (.iconst 0, 1) := by decide +kernel
theorem dX7_reckon_31 : decode cX7_reckon 31 = .ok (.istore_n 3, 1) := by decide +kernel
theorem dX7_reckon_32 : decode cX7_reckon 32 = .ok (.iload_n 3, 1) := by decide +kernel
theorem dX7_reckon_33 : decode cX7_reckon 33 = .ok (.iconst 3, 1) := by decide +kernel
theorem dX7_reckon_34 : decode cX7_reckon 34 = .ok (.if_icmp .ge 108, 3) := by decide +kernel
theorem dX7_reckon_37 : decode cX7_reckon 37 = .ok (.iconst (-1), 1) := by decide +kernel
theorem dX7_reckon_38 : decode cX7_reckon 38 = .ok (.istore 4, 2) := by decide +kernel
theorem dX7_reckon_40 : decode cX7_reckon 40 = .ok (.iconst 0, 1) := by decide +kernel
theorem dX7_reckon_41 : decode cX7_reckon 41 = .ok (.istore 5, 2) := by decide +kernel
theorem dX7_reckon_43 : decode cX7_reckon 43 = .ok (.iload 5, 2) := by decide +kernel
theorem dX7_reckon_45 : decode cX7_reckon 45 = .ok (.aload_n 0, 1) := by decide +kernel
theorem dX7_reckon_46 : decode cX7_reckon 46 = .ok (.getfield 128, 3) := by decide +kernel
theorem dX7_reckon_49 : decode cX7_reckon 49 = .ok (.if_icmp .ge 60, 3) := by decide +kernel
theorem dX7_reckon_52 : decode cX7_reckon 52 = .ok (.aload_n 0, 1) := by decide +kernel
theorem dX7_reckon_53 : decode cX7_reckon 53 = .ok (.iload 5, 2) := by decide +kernel
theorem dX7_reckon_55 : decode cX7_reckon 55 = .ok (.invokevirtual 157, 3) := by decide +kernel
theorem dX7_reckon_58 : decode cX7_reckon 58 = .ok (.ifCond .eq 41, 3) := by decide +kernel
theorem dX7_reckon_61 : decode cX7_reckon 61 = .ok (.aload_n 0, 1) := by decide +kernel
theorem dX7_reckon_62 : decode cX7_reckon 62 = .ok (.getfield 39, 3) := by decide +kernel
theorem dX7_reckon_65 : decode cX7_reckon 65 = .ok (.iload 5, 2) := by decide +kernel
theorem dX7_reckon_67 : decode cX7_reckon 67 = .ok (.iaload, 1) := by decide +kernel
theorem dX7_reckon_68 : decode cX7_reckon 68 = .ok (.iload_n 3, 1) := by decide +kernel
theorem dX7_reckon_69 : decode cX7_reckon 69 = .ok (.if_icmp .ne 30, 3) := by decide +kernel
theorem dX7_reckon_72 : decode cX7_reckon 72 = .ok (.iload 4, 2) := by decide +kernel
theorem dX7_reckon_74 : decode cX7_reckon 74 = .ok (.ifCond .lt 20, 3) := by decide +kernel
theorem dX7_reckon_77 : decode cX7_reckon 77 = .ok (.aload_n 0, 1) := by decide +kernel
theorem dX7_reckon_78 : decode cX7_reckon 78 = .ok (.getfield 82, 3) := by decide +kernel
theorem dX7_reckon_81 : decode cX7_reckon 81 = .ok (.iload 5, 2) := by decide +kernel
theorem dX7_reckon_83 : decode cX7_reckon 83 = .ok (.iaload, 1) := by decide +kernel
theorem dX7_reckon_84 : decode cX7_reckon 84 = .ok (.aload_n 0, 1) := by decide +kernel
theorem dX7_reckon_85 : decode cX7_reckon 85 = .ok (.getfield 82, 3) := by decide +kernel
theorem dX7_reckon_88 : decode cX7_reckon 88 = .ok (.iload 4, 2) := by decide +kernel
theorem dX7_reckon_90 : decode cX7_reckon 90 = .ok (.iaload, 1) := by decide +kernel
theorem dX7_reckon_91 : decode cX7_reckon 91 = .ok (.if_icmp .le 8, 3) := by decide +kernel
theorem dX7_reckon_94 : decode cX7_reckon 94 = .ok (.iload 5, 2) := by decide +kernel
theorem dX7_reckon_96 : decode cX7_reckon 96 = .ok (.goto 5, 3) := by decide +kernel
theorem dX7_reckon_99 : decode cX7_reckon 99 = .ok (.iload 4, 2) := by decide +kernel
theorem dX7_reckon_101 : decode cX7_reckon 101 = .ok (.istore 4, 2) := by decide +kernel
theorem dX7_reckon_103 : decode cX7_reckon 103 = .ok (.iinc 5 1, 3) := by decide +kernel
theorem dX7_reckon_106 : decode cX7_reckon 106 = .ok (.goto (-63), 3) := by decide +kernel
theorem dX7_reckon_109 : decode cX7_reckon 109 = .ok (.lload_n 1, 1) := by decide +kernel
theorem dX7_reckon_110 : decode cX7_reckon 110 = .ok (.iload 4, 2) := by decide +kernel
theorem dX7_reckon_112 : decode cX7_reckon 112 = .ok (.ifCond .ge 7, 3) := by decide +kernel
theorem dX7_reckon_115 : decode cX7_reckon 115 = .ok (.iconst 0, 1) := by decide +kernel
theorem dX7_reckon_116 : decode cX7_reckon 116 = .ok (.goto 10, 3) := by decide +kernel
theorem dX7_reckon_119 : decode cX7_reckon 119 = .ok (.aload_n 0, 1) := by decide +kernel
theorem dX7_reckon_120 : decode cX7_reckon 120 = .ok (.getfield 45, 3) := by decide +kernel
theorem dX7_reckon_123 : decode cX7_reckon 123 = .ok (.iload 4, 2) := by decide +kernel
theorem dX7_reckon_125 : decode cX7_reckon 125 = .ok (.iaload, 1) := by decide +kernel
theorem dX7_reckon_126 : decode cX7_reckon 126 = .ok (.i2l, 1) := by decide +kernel
theorem dX7_reckon_127 : decode cX7_reckon 127 = .ok (.bipush 32, 2) := by decide +kernel
theorem dX7_reckon_129 : decode cX7_reckon 129 = .ok (.iconst 2, 1) := by decide +kernel
theorem dX7_reckon_130 : decode cX7_reckon 130 = .ok (.iload_n 3, 1) := by decide +kernel
theorem dX7_reckon_131 : decode cX7_reckon 131 = .ok (.imul, 1) := by decide +kernel
theorem dX7_reckon_132 : decode cX7_reckon 132 = .ok (.iadd, 1) := by decide +kernel
theorem dX7_reckon_133 : decode cX7_reckon 133 = .ok (.lshl, 1) := by decide +kernel
theorem dX7_reckon_134 : decode cX7_reckon 134 = .ok (.lor, 1) := by decide +kernel
theorem dX7_reckon_135 : decode cX7_reckon 135 = .ok (.lstore_n 1, 1) := by decide +kernel
theorem dX7_reckon_136 : decode cX7_reckon 136 = .ok (.iinc 3 1, 3) := by decide +kernel
theorem dX7_reckon_139 : decode cX7_reckon 139 = .ok (.goto (-107), 3) := by decide +kernel
theorem dX7_reckon_142 : decode cX7_reckon 142 = .ok (.lload_n 1, 1) := by decide +kernel
theorem dX7_reckon_143 : decode cX7_reckon 143 = .ok (.lreturn, 1) := by decide +kernel
theorem dX7_placeOf_0 : decode cX7_placeOf 0 = .ok (.iconst 0, 1) := by decide +kernel
theorem dX7_placeOf_1 : decode cX7_placeOf 1 = .ok (.istore_n 3, 1) := by decide +kernel
theorem dX7_placeOf_2 : decode cX7_placeOf 2 = .ok (.aload_n 0, 1) := by decide +kernel
theorem dX7_placeOf_3 : decode cX7_placeOf 3 = .ok (.getfield 181, 3) := by decide +kernel
theorem dX7_placeOf_6 : decode cX7_placeOf 6 = .ok (.istore 4, 2) := by decide +kernel
theorem dX7_placeOf_8 : decode cX7_placeOf 8 = .ok (.iload_n 3, 1) := by decide +kernel
theorem dX7_placeOf_9 : decode cX7_placeOf 9 = .ok (.iload 4, 2) := by decide +kernel
theorem dX7_placeOf_11 : decode cX7_placeOf 11 = .ok (.if_icmp .ge 38, 3) := by decide +kernel
theorem dX7_placeOf_14 : decode cX7_placeOf 14 = .ok (.iload_n 3, 1) := by decide +kernel
theorem dX7_placeOf_15 : decode cX7_placeOf 15 = .ok (.iload 4, 2) := by decide +kernel
theorem dX7_placeOf_17 : decode cX7_placeOf 17 = .ok (.iadd, 1) := by decide +kernel
theorem dX7_placeOf_18 : decode cX7_placeOf 18 = .ok (.iconst 2, 1) := by decide +kernel
theorem dX7_placeOf_19 : decode cX7_placeOf 19 = .ok (.idiv, 1) := by decide +kernel
theorem dX7_placeOf_20 : decode cX7_placeOf 20 = .ok (.istore 5, 2) := by decide +kernel
theorem dX7_placeOf_22 : decode cX7_placeOf 22 = .ok (.aload_n 0, 1) := by decide +kernel
theorem dX7_placeOf_23 : decode cX7_placeOf 23 = .ok (.getfield 17, 3) := by decide +kernel
theorem dX7_placeOf_26 : decode cX7_placeOf 26 = .ok (.iload 5, 2) := by decide +kernel
theorem dX7_placeOf_28 : decode cX7_placeOf 28 = .ok (.laload, 1) := by decide +kernel
theorem dX7_placeOf_29 : decode cX7_placeOf 29 = .ok (.lload_n 1, 1) := by decide +kernel
theorem dX7_placeOf_30 : decode cX7_placeOf 30 = .ok (.lcmp, 1) := by decide +kernel
theorem dX7_placeOf_31 : decode cX7_placeOf 31 = .ok (.ifCond .ge 11, 3) := by decide +kernel
theorem dX7_placeOf_34 : decode cX7_placeOf 34 = .ok (.iload 5, 2) := by decide +kernel
theorem dX7_placeOf_36 : decode cX7_placeOf 36 = .ok (.iconst 1, 1) := by decide +kernel
theorem dX7_placeOf_37 : decode cX7_placeOf 37 = .ok (.iadd, 1) := by decide +kernel
theorem dX7_placeOf_38 : decode cX7_placeOf 38 = .ok (.istore_n 3, 1) := by decide +kernel
theorem dX7_placeOf_39 : decode cX7_placeOf 39 = .ok (.goto 7, 3) := by decide +kernel
theorem dX7_placeOf_42 : decode cX7_placeOf 42 = .ok (.iload 5, 2) := by decide +kernel
theorem dX7_placeOf_44 : decode cX7_placeOf 44 = .ok (.istore 4, 2) := by decide +kernel
theorem dX7_placeOf_46 : decode cX7_placeOf 46 = .ok (.goto (-38), 3) := by decide +kernel
theorem dX7_placeOf_49 : decode cX7_placeOf 49 = .ok (.iload_n 3, 1) := by decide +kernel
theorem dX7_placeOf_50 : decode cX7_placeOf 50 = .ok (.ireturn, 1) := by decide +kernel
set_option maxRecDepth 20000 in
theorem ggX7_keep_X7_placeOf : GoodIn wsX7_keep wsX7_placeOf := goodIn_r _ [7, 1, 2, 8, 9, 10, 11, 12, 13, 14, 15, 16, 17, 18, 19, 20, 21, 22, 23, 24, 25, 26, 27, 28, 29, 30, 31, 32, 33, 34, 35, 36, 37, 38, 39, 40, 41, 42] (by decide +kernel) (by decide +kernel)
set_option maxRecDepth 20000 in
theorem gX7_keep_X7_placeOf : GoodIn wsX7_keep (wsV RX7 184 RX7 yX7_placeOf wsX7_placeOf) := goodIn_app (goodIn_of _ (by decide +kernel)) ggX7_keep_X7_placeOf
theorem dX7_keep_0 : decode cX7_keep 0 = .ok (.aload_n 0, 1) := by decide +kernel
theorem dX7_keep_1 : decode cX7_keep 1 = .ok (.lload_n 1, 1) := by decide +kernel
theorem dX7_keep_2 : decode cX7_keep 2 = .ok (.invokevirtual 184, 3) := by decide +kernel
theorem dX7_keep_5 : decode cX7_keep 5 = .ok (.istore_n 3, 1) := by decide +kernel
theorem dX7_keep_6 : decode cX7_keep 6 = .ok (.iload_n 3, 1) := by decide +kernel
theorem dX7_keep_7 : decode cX7_keep 7 = .ok (.aload_n 0, 1) := by decide +kernel
theorem dX7_keep_8 : decode cX7_keep 8 = .ok (.getfield 181, 3) := by decide +kernel
theorem dX7_keep_11 : decode cX7_keep 11 = .ok (.if_icmp .ge 15, 3) := by decide +kernel
theorem dX7_keep_14 : decode cX7_keep 14 = .ok (.aload_n 0, 1) := by decide +kernel
theorem dX7_keep_15 : decode cX7_keep 15 = .ok (.getfield 17, 3) := by decide +kernel
theorem dX7_keep_18 : decode cX7_keep 18 = .ok (.iload_n 3, 1) := by decide +kernel
theorem dX7_keep_19 : decode cX7_keep 19 = .ok (.laload, 1) := by decide +kernel
theorem dX7_keep_20 : decode cX7_keep 20 = .ok (.lload_n 1, 1) := by decide +kernel
theorem dX7_keep_21 : decode cX7_keep 21 = .ok (.lcmp, 1) := by decide +kernel
theorem dX7_keep_22 : decode cX7_keep 22 = .ok (.ifCond .ne 4, 3) := by decide +kernel
theorem dX7_keep_25 : decode cX7_keep 25 = .ok (.return_, 1) := by decide +kernel
theorem dX7_keep_26 : decode cX7_keep 26 = .ok (.aload_n 0, 1) := by decide +kernel
theorem dX7_keep_27 : decode cX7_keep 27 = .ok (.getfield 181, 3) := by decide +kernel
theorem dX7_keep_30 : decode cX7_keep 30 = .ok (.istore 4, 2) := by decide +kernel
theorem dX7_keep_32 : decode cX7_keep 32 = .ok (.iload 4, 2) := by decide +kernel
theorem dX7_keep_34 : decode cX7_keep 34 = .ok (.iload_n 3, 1) := by decide +kernel
theorem dX7_keep_35 : decode cX7_keep 35 = .ok (.if_icmp .le 25, 3) := by decide +kernel
theorem dX7_keep_38 : decode cX7_keep 38 = .ok (.aload_n 0, 1) := by decide +kernel
theorem dX7_keep_39 : decode cX7_keep 39 = .ok (.getfield 17, 3) := by decide +kernel
theorem dX7_keep_42 : decode cX7_keep 42 = .ok (.iload 4, 2) := by decide +kernel
theorem dX7_keep_44 : decode cX7_keep 44 = .ok (.aload_n 0, 1) := by decide +kernel
theorem dX7_keep_45 : decode cX7_keep 45 = .ok (.getfield 17, 3) := by decide +kernel
theorem dX7_keep_48 : decode cX7_keep 48 = .ok (.iload 4, 2) := by decide +kernel
theorem dX7_keep_50 : decode cX7_keep 50 = .ok (.iconst 1, 1) := by decide +kernel
theorem dX7_keep_51 : decode cX7_keep 51 = .ok (.isub, 1) := by decide +kernel
theorem dX7_keep_52 : decode cX7_keep 52 = .ok (.laload, 1) := by decide +kernel
theorem dX7_keep_53 : decode cX7_keep 53 = .ok (.lastore, 1) := by decide +kernel
theorem dX7_keep_54 : decode cX7_keep 54 = .ok (.iinc 4 (-1), 3) := by decide +kernel
theorem dX7_keep_57 : decode cX7_keep 57 = .ok (.goto (-25), 3) := by decide +kernel
theorem dX7_keep_60 : decode cX7_keep 60 = .ok (.aload_n 0, 1) := by decide +kernel
theorem dX7_keep_61 : decode cX7_keep 61 = .ok (.getfield 17, 3) := by decide +kernel
theorem dX7_keep_64 : decode cX7_keep 64 = .ok (.iload_n 3, 1) := by decide +kernel
theorem dX7_keep_65 : decode cX7_keep 65 = .ok (.lload_n 1, 1) := by decide +kernel
theorem dX7_keep_66 : decode cX7_keep 66 = .ok (.lastore, 1) := by decide +kernel
theorem dX7_keep_67 : decode cX7_keep 67 = .ok (.aload_n 0, 1) := by decide +kernel
theorem dX7_keep_68 : decode cX7_keep 68 = .ok (.dup, 1) := by decide +kernel
theorem dX7_keep_69 : decode cX7_keep 69 = .ok (.getfield 181, 3) := by decide +kernel
theorem dX7_keep_72 : decode cX7_keep 72 = .ok (.iconst 1, 1) := by decide +kernel
theorem dX7_keep_73 : decode cX7_keep 73 = .ok (.iadd, 1) := by decide +kernel
theorem dX7_keep_74 : decode cX7_keep 74 = .ok (.putfield 181, 3) := by decide +kernel
theorem dX7_keep_77 : decode cX7_keep 77 = .ok (.return_, 1) := by decide +kernel
set_option maxRecDepth 20000 in
theorem ggX7_goThrough_X7_findMust : GoodIn wsX7_goThrough wsX7_findMust := goodIn_r _ [8, 1, 9, 10, 11, 12, 13, 7, 14, 15, 16, 17, 18, 19, 20, 21, 22, 23, 24, 25, 26, 27, 28, 29, 30, 31, 32, 33, 34, 35, 36, 37, 38, 39, 40, 41, 42, 43, 44, 45, 46, 47, 48, 91, 92, 93, 94, 95, 96, 97, 98, 99, 100, 101, 102, 103, 104, 105, 106, 107, 108, 109, 110, 111, 112, 113, 114, 115, 116, 117, 118, 119, 120, 121, 122, 123, 124, 125] (by decide +kernel) (by decide +kernel)
set_option maxRecDepth 20000 in
theorem gX7_goThrough_X7_findMust : GoodIn wsX7_goThrough (wsV RX7 188 RX7 yX7_findMust wsX7_findMust) := goodIn_app (goodIn_of _ (by decide +kernel)) ggX7_goThrough_X7_findMust
set_option maxRecDepth 20000 in
theorem ggX7_goThrough_X7_isOrder : GoodIn wsX7_goThrough wsX7_isOrder := goodIn_r _ [52, 1, 9, 3, 53, 54, 55, 10, 18, 23, 24, 25, 7, 26, 27, 28, 29, 56, 57, 58, 59, 16, 30, 31, 32, 33, 34, 35, 36, 60, 61, 62, 63, 20, 21, 64, 65, 66, 67, 46, 47, 48, 68, 69, 70, 71, 19, 91, 92, 93, 94, 95, 96, 97, 98, 99, 100, 101, 102, 103, 104, 105, 106, 107, 108, 109, 110, 111, 112, 113, 114, 115, 116, 117, 118, 119, 120, 121, 122, 123, 124, 125] (by decide +kernel) (by decide +kernel)
set_option maxRecDepth 20000 in
theorem gX7_goThrough_X7_isOrder : GoodIn wsX7_goThrough (wsV RX7 191 RX7 yX7_isOrder wsX7_isOrder) := goodIn_app (goodIn_of _ (by decide +kernel)) ggX7_goThrough_X7_isOrder
set_option maxRecDepth 20000 in
theorem ggX7_goThrough_X7_reckon : GoodIn wsX7_goThrough wsX7_reckon := goodIn_r _ [75, 76, 1, 16, 3, 54, 30, 31, 32, 7, 33, 18, 34, 35, 36, 91, 92, 93, 94, 95, 96, 97, 98, 99, 100, 101, 102, 103, 104, 105, 106, 107, 108, 109, 110, 111, 112, 113, 114, 115, 116, 117, 118, 119, 120, 121, 122, 123, 124, 125] (by decide +kernel) (by decide +kernel)
set_option maxRecDepth 20000 in
theorem gX7_goThrough_X7_reckon : GoodIn wsX7_goThrough (wsV RX7 195 RX7 yX7_reckon wsX7_reckon) := goodIn_app (goodIn_of _ (by decide +kernel)) ggX7_goThrough_X7_reckon
set_option maxRecDepth 20000 in
theorem ggX7_goThrough_X7_keep : GoodIn wsX7_goThrough wsX7_keep := goodIn_r _ [80, 81, 82, 83, 84, 85, 7, 86, 91, 92, 93, 94, 95, 96, 97, 98, 99, 100, 101, 102, 103, 104, 105, 106, 107, 108, 109, 110, 111, 112, 113, 114, 115, 116, 117, 118, 119, 120, 121, 122, 123, 124, 125] (by decide +kernel) (by decide +kernel)
set_option maxRecDepth 20000 in
theorem gX7_goThrough_X7_keep : GoodIn wsX7_goThrough (wsV RX7 199 RX7 yX7_keep wsX7_keep) := goodIn_app (goodIn_of _ (by decide +kernel)) ggX7_goThrough_X7_keep
set_option maxRecDepth 20000 in
theorem ggX7_goThrough_X7_nextOrder : GoodIn wsX7_goThrough wsX7_nextOrder := goodIn_r _ [90, 1, 2, 91, 92, 93, 94, 95, 96, 97, 98, 99, 100, 101, 102, 103, 104, 105, 106, 107, 108, 109, 110, 111, 112, 113, 114, 115, 116, 117, 118, 119, 120, 121, 122, 123, 124, 125] (by decide +kernel) (by decide +kernel)
set_option maxRecDepth 20000 in
theorem gX7_goThrough_X7_nextOrder : GoodIn wsX7_goThrough (wsV RX7 203 RX7 yX7_nextOrder wsX7_nextOrder) := goodIn_app (goodIn_of _ (by decide +kernel)) ggX7_goThrough_X7_nextOrder
theorem dX7_goThrough_0 : decode cX7_goThrough 0 = .ok (.aload_n 0, 1) := by decide +kernel
theorem dX7_goThrough_1 : decode cX7_goThrough 1 = .ok (.invokevirtual 188, 3) := by decide +kernel
theorem dX7_goThrough_4 : decode cX7_goThrough 4 = .ok (.iconst 0, 1) := by decide +kernel
theorem dX7_goThrough_5 : decode cX7_goThrough 5 = .ok (.istore_n 1, 1) := by decide +kernel
theorem dX7_goThrough_6 : decode cX7_goThrough 6 = .ok (.iload_n 1, 1) := by decide +kernel
theorem dX7_goThrough_7 : decode cX7_goThrough 7 = .ok (.aload_n 0, 1) := by decide +kernel
theorem dX7_goThrough_8 : decode cX7_goThrough 8 = .ok (.getfield 128, 3) := by decide +kernel
theorem dX7_goThrough_11 : decode cX7_goThrough 11 = .ok (.if_icmp .ge 16, 3) := by decide +kernel
theorem dX7_goThrough_14 : decode cX7_goThrough 14 = .ok (.aload_n 0, 1) := by decide +kernel
theorem dX7_goThrough_15 : decode cX7_goThrough 15 = .ok (.getfield 79, 3) := by decide +kernel
theorem dX7_goThrough_18 : decode cX7_goThrough 18 = .ok (.iload_n 1, 1) := by decide +kernel
theorem dX7_goThrough_19 : decode cX7_goThrough 19 = .ok (.iload_n 1, 1) := by decide +kernel
theorem dX7_goThrough_20 : decode cX7_goThrough 20 = .ok (.iastore, 1) := by decide +kernel
theorem dX7_goThrough_21 : decode cX7_goThrough 21 = .ok (.iinc 1 1, 3) := by decide +kernel
theorem dX7_goThrough_24 : decode cX7_goThrough 24 = .ok (.goto (-18), 3) := by decide +kernel
theorem dX7_goThrough_27 : decode cX7_goThrough 27 = .ok (.iconst 0, 1) := by decide +kernel
theorem dX7_goThrough_28 : decode cX7_goThrough 28 = .ok (.istore_n 1, 1) := by decide +kernel
theorem dX7_goThrough_29 : decode cX7_goThrough 29 = .ok (.iconst 1, 1) := by decide +kernel
theorem dX7_goThrough_30 : decode cX7_goThrough 30 = .ok (.istore_n 2, 1) := by decide +kernel
theorem dX7_goThrough_31 : decode cX7_goThrough 31 = .ok (.iload_n 2, 1) := by decide +kernel
theorem dX7_goThrough_32 : decode cX7_goThrough 32 = .ok (.ifCond .eq 56, 3) := by decide +kernel
theorem dX7_goThrough_35 : decode cX7_goThrough 35 = .ok (.iconst 0, 1) := by decide +kernel
theorem dX7_goThrough_36 : decode cX7_goThrough 36 = .ok (.istore_n 3, 1) := by decide +kernel
theorem dX7_goThrough_37 : decode cX7_goThrough 37 = .ok (.iload_n 3, 1) := by decide +kernel
theorem dX7_goThrough_38 : decode cX7_goThrough 38 = .ok (.aload_n 0, 1) := by decide +kernel
theorem dX7_goThrough_39 : decode cX7_goThrough 39 = .ok (.getfield 128, 3) := by decide +kernel
theorem dX7_goThrough_42 : decode cX7_goThrough 42 = .ok (.if_icmp .ge 21, 3) := by decide +kernel
theorem dX7_goThrough_45 : decode cX7_goThrough 45 = .ok (.aload_n 0, 1) := by decide +kernel
theorem dX7_goThrough_46 : decode cX7_goThrough 46 = .ok (.getfield 82, 3) := by decide +kernel
theorem dX7_goThrough_49 : decode cX7_goThrough 49 = .ok (.aload_n 0, 1) := by decide +kernel
theorem dX7_goThrough_50 : decode cX7_goThrough 50 = .ok (.getfield 79, 3) := by decide +kernel
theorem dX7_goThrough_53 : decode cX7_goThrough 53 = .ok (.iload_n 3, 1) := by decide +kernel
theorem dX7_goThrough_54 : decode cX7_goThrough 54 = .ok (.iaload, 1) := by decide +kernel
theorem dX7_goThrough_55 : decode cX7_goThrough 55 = .ok (.iload_n 3, 1) := by decide +kernel
theorem dX7_goThrough_56 : decode cX7_goThrough 56 = .ok (.iastore, 1) := by decide +kernel
theorem dX7_goThrough_57 : decode cX7_goThrough 57 = .ok (.iinc 3 1, 3) := by decide +kernel
theorem dX7_goThrough_60 : decode cX7_goThrough 60 = .ok (.goto (-23), 3) := by decide +kernel
theorem dX7_goThrough_63 : decode cX7_goThrough 63 = .ok (.aload_n 0, 1) := by decide +kernel
theorem dX7_goThrough_64 : decode cX7_goThrough 64 = .ok (.invokevirtual 191, 3) := by decide +kernel
theorem dX7_goThrough_67 : decode cX7_goThrough 67 = .ok (.ifCond .eq 13, 3) := by decide +kernel
theorem dX7_goThrough_70 : decode cX7_goThrough 70 = .ok (.iconst 1, 1) := by decide +kernel
theorem dX7_goThrough_71 : decode cX7_goThrough 71 = .ok (.istore_n 1, 1) := by decide +kernel
theorem dX7_goThrough_72 : decode cX7_goThrough 72 = .ok (.aload_n 0, 1) := by decide +kernel
theorem dX7_goThrough_73 : decode cX7_goThrough 73 = .ok (.aload_n 0, 1) := by decide +kernel
theorem dX7_goThrough_74 : decode cX7_goThrough 74 = .ok (.invokevirtual 195, 3) := by decide +kernel
theorem dX7_goThrough_77 : decode cX7_goThrough 77 = .ok (.invokevirtual 199, 3) := by decide +kernel
theorem dX7_goThrough_80 : decode cX7_goThrough 80 = .ok (.aload_n 0, 1) := by decide +kernel
theorem dX7_goThrough_81 : decode cX7_goThrough 81 = .ok (.invokevirtual 203, 3) := by decide +kernel
theorem dX7_goThrough_84 : decode cX7_goThrough 84 = .ok (.istore_n 2, 1) := by decide +kernel
theorem dX7_goThrough_85 : decode cX7_goThrough 85 = .ok (.goto (-54), 3) := by decide +kernel
theorem dX7_goThrough_88 : decode cX7_goThrough 88 = .ok (.iload_n 1, 1) := by decide +kernel
theorem dX7_goThrough_89 : decode cX7_goThrough 89 = .ok (.ireturn, 1) := by decide +kernel
set_option maxRecDepth 20000 in
theorem ggX7_find_X7_doWay : GoodIn wsX7_find wsX7_doWay := goodIn_r _ [9, 10, 11, 12, 13, 14, 15, 16, 17, 8, 18, 19, 20, 21, 22, 23, 24, 25, 26, 27, 28, 29, 30, 31, 32, 33, 34, 35, 36, 37, 38, 39, 40, 41, 42, 43, 44, 4, 45, 46, 47, 48, 49, 50, 51, 52, 126, 127, 128, 129, 130, 131, 132, 133, 134, 135, 136, 137, 138, 139, 140, 141, 142, 143, 144, 145, 146, 147, 148, 149, 150, 151, 152, 153, 154, 155, 156, 157, 158, 159, 160] (by decide +kernel) (by decide +kernel)
set_option maxRecDepth 20000 in
theorem gX7_find_X7_doWay : GoodIn wsX7_find (wsV RX7 209 RX7 yX7_doWay wsX7_doWay) := goodIn_app (goodIn_of _ (by decide +kernel)) ggX7_find_X7_doWay
set_option maxRecDepth 20000 in
theorem ggX7_find_X7_goThrough : GoodIn wsX7_find wsX7_goThrough := goodIn_r _ [56, 11, 57, 58, 59, 60, 61, 8, 62, 63, 33, 64, 65, 66, 67, 68, 31, 35, 34, 32, 36, 38, 37, 69, 70, 71, 72, 50, 51, 52, 73, 74, 75, 76, 47, 48, 49, 77, 78, 79, 80, 12, 23, 24, 25, 26, 81, 82, 83, 84, 85, 86, 87, 88, 40, 39, 89, 90, 91, 92, 93, 94, 95, 96, 97, 98, 99, 100, 101, 102, 103, 104, 105, 106, 107, 108, 13, 109, 110, 111, 112, 2, 113, 114, 115, 116, 117, 118, 119, 120, 121, 126, 127, 128, 129, 130, 131, 132, 133, 134, 135, 136, 137, 138, 139, 140, 141, 142, 143, 144, 145, 146, 147, 148, 149, 150, 151, 152, 153, 154, 155, 156, 157, 158, 159, 160] (by decide +kernel) (by decide +kernel)
set_option maxRecDepth 20000 in
theorem gX7_find_X7_goThrough : GoodIn wsX7_find (wsV RX7 212 RX7 yX7_goThrough wsX7_goThrough) := goodIn_app (goodIn_of _ (by decide +kernel)) ggX7_find_X7_goThrough
set_option maxRecDepth 20000 in
theorem ggX7_find_X7_nextWay : GoodIn wsX7_find wsX7_nextWay := goodIn_r _ [125, 4, 45, 46, 126, 127, 128, 129, 130, 131, 132, 133, 134, 135, 136, 137, 138, 139, 140, 141, 142, 143, 144, 145, 146, 147, 148, 149, 150, 151, 152, 153, 154, 155, 156, 157, 158, 159, 160] (by decide +kernel) (by decide +kernel)
set_option maxRecDepth 20000 in
theorem gX7_find_X7_nextWay : GoodIn wsX7_find (wsV RX7 215 RX7 yX7_nextWay wsX7_nextWay) := goodIn_app (goodIn_of _ (by decide +kernel)) ggX7_find_X7_nextWay
theorem dX7_find_0 : decode cX7_find 0 = .ok (.aload_n 0, 1) := by decide +kernel
theorem dX7_find_1 : decode cX7_find 1 = .ok (.getfield 92, 3) := by decide +kernel
theorem dX7_find_4 : decode cX7_find 4 = .ok (.ifCond .eq 8, 3) := by decide +kernel
theorem dX7_find_7 : decode cX7_find 7 = .ok (.aload_n 0, 1) := by decide +kernel
theorem dX7_find_8 : decode cX7_find 8 = .ok (.getfield 181, 3) := by decide +kernel
theorem dX7_find_11 : decode cX7_find 11 = .ok (.ireturn, 1) := by decide +kernel
theorem dX7_find_12 : decode cX7_find 12 = .ok (.aload_n 0, 1) := by decide +kernel
theorem dX7_find_13 : decode cX7_find 13 = .ok (.iconst 0, 1) := by decide +kernel
theorem dX7_find_14 : decode cX7_find 14 = .ok (.putfield 181, 3) := by decide +kernel
theorem dX7_find_17 : decode cX7_find 17 = .ok (.aload_n 0, 1) := by decide +kernel
theorem dX7_find_18 : decode cX7_find 18 = .ok (.iconst 0, 1) := by decide +kernel
theorem dX7_find_19 : decode cX7_find 19 = .ok (.putfield 206, 3) := by decide +kernel
theorem dX7_find_22 : decode cX7_find 22 = .ok (.aload_n 0, 1) := by decide +kernel
theorem dX7_find_23 : decode cX7_find 23 = .ok (.iconst 0, 1) := by decide +kernel
theorem dX7_find_24 : decode cX7_find 24 = .ok (.putfield 125, 3) := by decide +kernel
theorem dX7_find_27 : decode cX7_find 27 = .ok (.iconst 1, 1) := by decide +kernel
theorem dX7_find_28 : decode cX7_find 28 = .ok (.istore_n 1, 1) := by decide +kernel
theorem dX7_find_29 : decode cX7_find 29 = .ok (.iload_n 1, 1) := by decide +kernel
theorem dX7_find_30 : decode cX7_find 30 = .ok (.ifCond .eq 32, 3) := by decide +kernel
theorem dX7_find_33 : decode cX7_find 33 = .ok (.aload_n 0, 1) := by decide +kernel
theorem dX7_find_34 : decode cX7_find 34 = .ok (.invokevirtual 209, 3) := by decide +kernel
theorem dX7_find_37 : decode cX7_find 37 = .ok (.aload_n 0, 1) := by decide +kernel
theorem dX7_find_38 : decode cX7_find 38 = .ok (.invokevirtual 212, 3) := by decide +kernel
theorem dX7_find_41 : decode cX7_find 41 = .ok (.ifCond .eq 13, 3) := by decide +kernel
theorem dX7_find_44 : decode cX7_find 44 = .ok (.aload_n 0, 1) := by decide +kernel
theorem dX7_find_45 : decode cX7_find 45 = .ok (.dup, 1) := by decide +kernel
theorem dX7_find_46 : decode cX7_find 46 = .ok (.getfield 206, 3) := by decide +kernel
theorem dX7_find_49 : decode cX7_find 49 = .ok (.iconst 1, 1) := by decide +kernel
theorem dX7_find_50 : decode cX7_find 50 = .ok (.iadd, 1) := by decide +kernel
theorem dX7_find_51 : decode cX7_find 51 = .ok (.putfield 206, 3) := by decide +kernel
theorem dX7_find_54 : decode cX7_find 54 = .ok (.aload_n 0, 1) := by decide +kernel
theorem dX7_find_55 : decode cX7_find 55 = .ok (.invokevirtual 215, 3) := by decide +kernel
theorem dX7_find_58 : decode cX7_find 58 = .ok (.istore_n 1, 1) := by decide +kernel
theorem dX7_find_59 : decode cX7_find 59 = .ok (.goto (-30), 3) := by decide +kernel
theorem dX7_find_62 : decode cX7_find 62 = .ok (.aload_n 0, 1) := by decide +kernel
theorem dX7_find_63 : decode cX7_find 63 = .ok (.iconst 1, 1) := by decide +kernel
theorem dX7_find_64 : decode cX7_find 64 = .ok (.putfield 92, 3) := by decide +kernel
theorem dX7_find_67 : decode cX7_find 67 = .ok (.aload_n 0, 1) := by decide +kernel
theorem dX7_find_68 : decode cX7_find 68 = .ok (.getfield 181, 3) := by decide +kernel
theorem dX7_find_71 : decode cX7_find 71 = .ok (.ireturn, 1) := by decide +kernel
set_option maxRecDepth 20000 in
theorem ggX7_outcome_X7_in : GoodIn wsX7_outcome wsX7_in := goodIn_r _ [8] (by decide +kernel) (by decide +kernel)
set_option maxRecDepth 20000 in
theorem gX7_outcome_X7_in : GoodIn wsX7_outcome (va_wsS RX7 96 yX7_in wsX7_in) := goodIn_app (goodIn_of _ (by decide +kernel)) ggX7_outcome_X7_in
theorem dX7_outcome_0 : decode cX7_outcome 0 = .ok (.aload_n 0, 1) := by decide +kernel
theorem dX7_outcome_1 : decode cX7_outcome 1 = .ok (.getfield 92, 3) := by decide +kernel
theorem dX7_outcome_4 : decode cX7_outcome 4 = .ok (.ifCond .eq 26, 3) := by decide +kernel
theorem dX7_outcome_7 : decode cX7_outcome 7 = .ok (.iload_n 1, 1) := by decide +kernel
theorem dX7_outcome_8 : decode cX7_outcome 8 = .ok (.iconst 0, 1) := by decide +kernel
theorem dX7_outcome_9 : decode cX7_outcome 9 = .ok (.aload_n 0, 1) := by decide +kernel
theorem dX7_outcome_10 : decode cX7_outcome 10 = .ok (.getfield 181, 3) := by decide +kernel
theorem dX7_outcome_13 : decode cX7_outcome 13 = .ok (.iconst 1, 1) := by decide +kernel
theorem dX7_outcome_14 : decode cX7_outcome 14 = .ok (.isub, 1) := by decide +kernel
theorem dX7_outcome_15 : decode cX7_outcome 15 = .ok (.invokestatic 96, 3) := by decide +kernel
theorem dX7_outcome_18 : decode cX7_outcome 18 = .ok (.ifCond .eq 12, 3) := by decide +kernel
theorem dX7_outcome_21 : decode cX7_outcome 21 = .ok (.aload_n 0, 1) := by decide +kernel
theorem dX7_outcome_22 : decode cX7_outcome 22 = .ok (.getfield 17, 3) := by decide +kernel
theorem dX7_outcome_25 : decode cX7_outcome 25 = .ok (.iload_n 1, 1) := by decide +kernel
theorem dX7_outcome_26 : decode cX7_outcome 26 = .ok (.laload, 1) := by decide +kernel
theorem dX7_outcome_27 : decode cX7_outcome 27 = .ok (.goto 6, 3) := by decide +kernel
theorem dX7_outcome_30 : decode cX7_outcome 30 = .ok (.ldc2_w 218, 3) := by decide +kernel
theorem dX7_outcome_33 : decode cX7_outcome 33 = .ok (.lreturn, 1) := by decide +kernel
set_option maxRecDepth 20000 in
theorem ggX7_isAsking_X7_in : GoodIn wsX7_isAsking wsX7_in := goodIn_r _ [4] (by decide +kernel) (by decide +kernel)
set_option maxRecDepth 20000 in
theorem gX7_isAsking_X7_in : GoodIn wsX7_isAsking (va_wsS RX7 96 yX7_in wsX7_in) := goodIn_app (goodIn_of _ (by decide +kernel)) ggX7_isAsking_X7_in
theorem dX7_isAsking_0 : decode cX7_isAsking 0 = .ok (.iload_n 0, 1) := by decide +kernel
theorem dX7_isAsking_1 : decode cX7_isAsking 1 = .ok (.iconst 0, 1) := by decide +kernel
theorem dX7_isAsking_2 : decode cX7_isAsking 2 = .ok (.bipush 18, 2) := by decide +kernel
theorem dX7_isAsking_4 : decode cX7_isAsking 4 = .ok (.invokestatic 96, 3) := by decide +kernel
theorem dX7_isAsking_7 : decode cX7_isAsking 7 = .ok (.ifCond .eq 16, 3) := by decide +kernel
theorem dX7_isAsking_10 : decode cX7_isAsking 10 = .ok (.iload_n 1, 1) := by decide +kernel
theorem dX7_isAsking_11 : decode cX7_isAsking 11 = .ok (.iconst 0, 1) := by decide +kernel
theorem dX7_isAsking_12 : decode cX7_isAsking 12 = .ok (.iconst 3, 1) := by decide +kernel
theorem dX7_isAsking_13 : decode cX7_isAsking 13 = .ok (.invokestatic 96, 3) := by decide +kernel
theorem dX7_isAsking_16 : decode cX7_isAsking 16 = .ok (.ifCond .eq 7, 3) := by decide +kernel
theorem dX7_isAsking_19 : decode cX7_isAsking 19 = .ok (.iconst 1, 1) := by decide +kernel
theorem dX7_isAsking_20 : decode cX7_isAsking 20 = .ok (.goto 4, 3) := by decide +kernel
theorem dX7_isAsking_23 : decode cX7_isAsking 23 = .ok (.iconst 0, 1) := by decide +kernel
theorem dX7_isAsking_24 : decode cX7_isAsking 24 = .ok (.ireturn, 1) := by decide +kernel
theorem dX7_has_0 : decode cX7_has 0 = .ok (.lload_n 0, 1) := by decide +kernel
theorem dX7_has_1 : decode cX7_has 1 = .ok (.iconst 2, 1) := by decide +kernel
theorem dX7_has_2 : decode cX7_has 2 = .ok (.iload_n 2, 1) := by decide +kernel
theorem dX7_has_3 : decode cX7_has 3 = .ok (.imul, 1) := by decide +kernel
theorem dX7_has_4 : decode cX7_has 4 = .ok (.lshr, 1) := by decide +kernel
theorem dX7_has_5 : decode cX7_has 5 = .ok (.ldc2_w 220, 3) := by decide +kernel
theorem dX7_has_8 : decode cX7_has 8 = .ok (.land, 1) := by decide +kernel
theorem dX7_has_9 : decode cX7_has 9 = .ok (.iload_n 3, 1) := by decide +kernel
theorem dX7_has_10 : decode cX7_has 10 = .ok (.i2l, 1) := by decide +kernel
theorem dX7_has_11 : decode cX7_has 11 = .ok (.lcmp, 1) := by decide +kernel
theorem dX7_has_12 : decode cX7_has 12 = .ok (.ifCond .ne 7, 3) := by decide +kernel
theorem dX7_has_15 : decode cX7_has 15 = .ok (.iconst 1, 1) := by decide +kernel
theorem dX7_has_16 : decode cX7_has 16 = .ok (.goto 4, 3) := by decide +kernel
theorem dX7_has_19 : decode cX7_has 19 = .ok (.iconst 0, 1) := by decide +kernel
theorem dX7_has_20 : decode cX7_has 20 = .ok (.ireturn, 1) := by decide +kernel
set_option maxRecDepth 20000 in
theorem ggX7_with_X7_both : GoodIn wsX7_with wsX7_both := goodIn_r _ [5, 6, 7, 8, 9, 10, 4, 11, 12, 13, 14, 15, 16, 17, 18, 19, 20, 21, 22, 23, 24, 25, 26, 27, 28, 29, 30, 31, 32, 33, 34, 35, 36, 37, 38, 39, 40, 41, 42, 43, 44, 45, 46, 47, 48, 49, 50, 51, 52, 53] (by decide +kernel) (by decide +kernel)
set_option maxRecDepth 20000 in
theorem gX7_with_X7_both : GoodIn wsX7_with (wsV RX7 222 RX7 yX7_both wsX7_both) := goodIn_app (goodIn_of _ (by decide +kernel)) ggX7_with_X7_both
theorem dX7_with_0 : decode cX7_with 0 = .ok (.aload_n 0, 1) := by decide +kernel
theorem dX7_with_1 : decode cX7_with 1 = .ok (.iload_n 1, 1) := by decide +kernel
theorem dX7_with_2 : decode cX7_with 2 = .ok (.iload_n 2, 1) := by decide +kernel
theorem dX7_with_3 : decode cX7_with 3 = .ok (.iload_n 1, 1) := by decide +kernel
theorem dX7_with_4 : decode cX7_with 4 = .ok (.iload_n 2, 1) := by decide +kernel
theorem dX7_with_5 : decode cX7_with 5 = .ok (.invokevirtual 222, 3) := by decide +kernel
theorem dX7_with_8 : decode cX7_with 8 = .ok (.ireturn, 1) := by decide +kernel
set_option maxRecDepth 20000 in
theorem ggX7_both_X7_isAsking : GoodIn wsX7_both wsX7_isAsking := goodIn_r _ [7, 8, 9, 6, 10] (by decide +kernel) (by decide +kernel)
set_option maxRecDepth 20000 in
theorem gX7_both_X7_isAsking : GoodIn wsX7_both (va_wsS RX7 226 yX7_isAsking wsX7_isAsking) := goodIn_app (goodIn_of _ (by decide +kernel)) ggX7_both_X7_isAsking
set_option maxRecDepth 20000 in
theorem ggX7_both_X7_has : GoodIn wsX7_both wsX7_has := goodIn_r _ [13, 14] (by decide +kernel) (by decide +kernel)
set_option maxRecDepth 20000 in
theorem gX7_both_X7_has : GoodIn wsX7_both (va_wsS RX7 229 yX7_has wsX7_has) := goodIn_app (goodIn_of _ (by decide +kernel)) ggX7_both_X7_has
theorem dX7_both_0 : decode cX7_both 0 = .ok (.iload_n 1, 1) := by decide +kernel
theorem dX7_both_1 : decode cX7_both 1 = .ok (.iload_n 2, 1) := by decide +kernel
theorem dX7_both_2 : decode cX7_both 2 = .ok (.invokestatic 226, 3) := by decide +kernel
theorem dX7_both_5 : decode cX7_both 5 = .ok (.ifCond .eq 12, 3) := by decide +kernel
theorem dX7_both_8 : decode cX7_both 8 = .ok (.iload_n 3, 1) := by decide +kernel
theorem dX7_both_9 : decode cX7_both 9 = .ok (.iload 4, 2) := by decide +kernel
theorem dX7_both_11 : decode cX7_both 11 = .ok (.invokestatic 226, 3) := by decide +kernel
theorem dX7_both_14 : decode cX7_both 14 = .ok (.ifCond .ne 6, 3) := by decide +kernel
theorem dX7_both_17 : decode cX7_both 17 = .ok (.bipush (-2), 2) := by decide +kernel
theorem dX7_both_19 : decode cX7_both 19 = .ok (.ireturn, 1) := by decide +kernel
theorem dX7_both_20 : decode cX7_both 20 = .ok (.aload_n 0, 1) := by decide +kernel
theorem dX7_both_21 : decode cX7_both 21 = .ok (.getfield 92, 3) := by decide +kernel
theorem dX7_both_24 : decode cX7_both 24 = .ok (.ifCond .ne 5, 3) := by decide +kernel
theorem dX7_both_27 : decode cX7_both 27 = .ok (.iconst (-1), 1) := by decide +kernel
theorem dX7_both_28 : decode cX7_both 28 = .ok (.ireturn, 1) := by decide +kernel
theorem dX7_both_29 : decode cX7_both 29 = .ok (.iconst 0, 1) := by decide +kernel
theorem dX7_both_30 : decode cX7_both 30 = .ok (.istore 5, 2) := by decide +kernel
theorem dX7_both_32 : decode cX7_both 32 = .ok (.iconst 0, 1) := by decide +kernel
theorem dX7_both_33 : decode cX7_both 33 = .ok (.istore 6, 2) := by decide +kernel
theorem dX7_both_35 : decode cX7_both 35 = .ok (.iload 6, 2) := by decide +kernel
theorem dX7_both_37 : decode cX7_both 37 = .ok (.aload_n 0, 1) := by decide +kernel
theorem dX7_both_38 : decode cX7_both 38 = .ok (.getfield 181, 3) := by decide +kernel
theorem dX7_both_41 : decode cX7_both 41 = .ok (.if_icmp .ge 51, 3) := by decide +kernel
theorem dX7_both_44 : decode cX7_both 44 = .ok (.aload_n 0, 1) := by decide +kernel
theorem dX7_both_45 : decode cX7_both 45 = .ok (.getfield 17, 3) := by decide +kernel
theorem dX7_both_48 : decode cX7_both 48 = .ok (.iload 6, 2) := by decide +kernel
theorem dX7_both_50 : decode cX7_both 50 = .ok (.laload, 1) := by decide +kernel
theorem dX7_both_51 : decode cX7_both 51 = .ok (.iload_n 1, 1) := by decide +kernel
theorem dX7_both_52 : decode cX7_both 52 = .ok (.iload_n 2, 1) := by decide +kernel
theorem dX7_both_53 : decode cX7_both 53 = .ok (.invokestatic 229, 3) := by decide +kernel
theorem dX7_both_56 : decode cX7_both 56 = .ok (.ifCond .eq 26, 3) := by decide +kernel
theorem dX7_both_59 : decode cX7_both 59 = .ok (.aload_n 0, 1) := by decide +kernel
theorem dX7_both_60 : decode cX7_both 60 = .ok (.getfield 17, 3) := by decide +kernel
theorem dX7_both_63 : decode cX7_both 63 = .ok (.iload 6, 2) := by decide +kernel
theorem dX7_both_65 : decode cX7_both 65 = .ok (.laload, 1) := by decide +kernel
theorem dX7_both_66 : decode cX7_both 66 = .ok (.iload_n 3, 1) := by decide +kernel
theorem dX7_both_67 : decode cX7_both 67 = .ok (.iload 4, 2) := by decide +kernel
theorem dX7_both_69 : decode cX7_both 69 = .ok (.invokestatic 229, 3) := by decide +kernel
theorem dX7_both_72 : decode cX7_both 72 = .ok (.ifCond .eq 10, 3) := by decide +kernel
theorem dX7_both_75 : decode cX7_both 75 = .ok (.iload 5, 2) := by decide +kernel
theorem dX7_both_77 : decode cX7_both 77 = .ok (.iconst 1, 1) := by decide +kernel
theorem dX7_both_78 : decode cX7_both 78 = .ok (.iadd, 1) := by decide +kernel
theorem dX7_both_79 : decode cX7_both 79 = .ok (.goto 5, 3) := by decide +kernel
theorem dX7_both_82 : decode cX7_both 82 = .ok (.iload 5, 2) := by decide +kernel
theorem dX7_both_84 : decode cX7_both 84 = .ok (.istore 5, 2) := by decide +kernel
theorem dX7_both_86 : decode cX7_both 86 = .ok (.iinc 6 1, 3) := by decide +kernel
theorem dX7_both_89 : decode cX7_both 89 = .ok (.goto (-54), 3) := by decide +kernel
theorem dX7_both_92 : decode cX7_both 92 = .ok (.iload 5, 2) := by decide +kernel
theorem dX7_both_94 : decode cX7_both 94 = .ok (.ireturn, 1) := by decide +kernel
set_option maxRecDepth 20000 in
theorem ggX7_is_X7_placeOf : GoodIn wsX7_is wsX7_placeOf := goodIn_r _ [8, 2, 3, 9, 10, 11, 12, 13, 14, 15, 16, 17, 18, 19, 20, 21, 22, 23, 24, 25, 26, 27, 28, 29, 30, 31, 32, 33, 34, 35, 36, 37, 38, 39, 40, 41, 42, 43] (by decide +kernel) (by decide +kernel)
set_option maxRecDepth 20000 in
theorem gX7_is_X7_placeOf : GoodIn wsX7_is (wsV RX7 184 RX7 yX7_placeOf wsX7_placeOf) := goodIn_app (goodIn_of _ (by decide +kernel)) ggX7_is_X7_placeOf
theorem dX7_is_0 : decode cX7_is 0 = .ok (.aload_n 0, 1) := by decide +kernel
theorem dX7_is_1 : decode cX7_is 1 = .ok (.getfield 92, 3) := by decide +kernel
theorem dX7_is_4 : decode cX7_is 4 = .ok (.ifCond .ne 5, 3) := by decide +kernel
theorem dX7_is_7 : decode cX7_is 7 = .ok (.iconst (-1), 1) := by decide +kernel
theorem dX7_is_8 : decode cX7_is 8 = .ok (.ireturn, 1) := by decide +kernel
theorem dX7_is_9 : decode cX7_is 9 = .ok (.aload_n 0, 1) := by decide +kernel
theorem dX7_is_10 : decode cX7_is 10 = .ok (.lload_n 1, 1) := by decide +kernel
theorem dX7_is_11 : decode cX7_is 11 = .ok (.invokevirtual 184, 3) := by decide +kernel
theorem dX7_is_14 : decode cX7_is 14 = .ok (.istore_n 3, 1) := by decide +kernel
theorem dX7_is_15 : decode cX7_is 15 = .ok (.iload_n 3, 1) := by decide +kernel
theorem dX7_is_16 : decode cX7_is 16 = .ok (.aload_n 0, 1) := by decide +kernel
theorem dX7_is_17 : decode cX7_is 17 = .ok (.getfield 181, 3) := by decide +kernel
theorem dX7_is_20 : decode cX7_is 20 = .ok (.if_icmp .ge 18, 3) := by decide +kernel
theorem dX7_is_23 : decode cX7_is 23 = .ok (.aload_n 0, 1) := by decide +kernel
theorem dX7_is_24 : decode cX7_is 24 = .ok (.getfield 17, 3) := by decide +kernel
theorem dX7_is_27 : decode cX7_is 27 = .ok (.iload_n 3, 1) := by decide +kernel
theorem dX7_is_28 : decode cX7_is 28 = .ok (.laload, 1) := by decide +kernel
theorem dX7_is_29 : decode cX7_is 29 = .ok (.lload_n 1, 1) := by decide +kernel
theorem dX7_is_30 : decode cX7_is 30 = .ok (.lcmp, 1) := by decide +kernel
theorem dX7_is_31 : decode cX7_is 31 = .ok (.ifCond .ne 7, 3) := by decide +kernel
theorem dX7_is_34 : decode cX7_is 34 = .ok (.iconst 1, 1) := by decide +kernel
theorem dX7_is_35 : decode cX7_is 35 = .ok (.goto 4, 3) := by decide +kernel
theorem dX7_is_38 : decode cX7_is 38 = .ok (.iconst 0, 1) := by decide +kernel
theorem dX7_is_39 : decode cX7_is 39 = .ok (.ireturn, 1) := by decide +kernel
set_option maxRecDepth 20000 in
theorem ggX7_instruction_X7_in : GoodIn wsX7_instruction wsX7_in := goodIn_r _ [6] (by decide +kernel) (by decide +kernel)
set_option maxRecDepth 20000 in
theorem gX7_instruction_X7_in : GoodIn wsX7_instruction (va_wsS RX7 96 yX7_in wsX7_in) := goodIn_app (goodIn_of _ (by decide +kernel)) ggX7_instruction_X7_in
theorem dX7_instruction_0 : decode cX7_instruction 0 = .ok (.iload_n 1, 1) := by decide +kernel
theorem dX7_instruction_1 : decode cX7_instruction 1 = .ok (.iconst 0, 1) := by decide +kernel
theorem dX7_instruction_2 : decode cX7_instruction 2 = .ok (.iconst 3, 1) := by decide +kernel
theorem dX7_instruction_3 : decode cX7_instruction 3 = .ok (.invokestatic 96, 3) := by decide +kernel
theorem dX7_instruction_6 : decode cX7_instruction 6 = .ok (.ifCond .eq 19, 3) := by decide +kernel
theorem dX7_instruction_9 : decode cX7_instruction 9 = .ok (.iload_n 2, 1) := by decide +kernel
theorem dX7_instruction_10 : decode cX7_instruction 10 = .ok (.iconst 0, 1) := by decide +kernel
theorem dX7_instruction_11 : decode cX7_instruction 11 = .ok (.aload_n 0, 1) := by decide +kernel
theorem dX7_instruction_12 : decode cX7_instruction 12 = .ok (.getfield 13, 3) := by decide +kernel
theorem dX7_instruction_15 : decode cX7_instruction 15 = .ok (.iload_n 1, 1) := by decide +kernel
theorem dX7_instruction_16 : decode cX7_instruction 16 = .ok (.iaload, 1) := by decide +kernel
theorem dX7_instruction_17 : decode cX7_instruction 17 = .ok (.iconst 1, 1) := by decide +kernel
theorem dX7_instruction_18 : decode cX7_instruction 18 = .ok (.isub, 1) := by decide +kernel
theorem dX7_instruction_19 : decode cX7_instruction 19 = .ok (.invokestatic 96, 3) := by decide +kernel
theorem dX7_instruction_22 : decode cX7_instruction 22 = .ok (.ifCond .ne 5, 3) := by decide +kernel
theorem dX7_instruction_25 : decode cX7_instruction 25 = .ok (.iconst (-1), 1) := by decide +kernel
theorem dX7_instruction_26 : decode cX7_instruction 26 = .ok (.ireturn, 1) := by decide +kernel
theorem dX7_instruction_27 : decode cX7_instruction 27 = .ok (.iload_n 3, 1) := by decide +kernel
theorem dX7_instruction_28 : decode cX7_instruction 28 = .ok (.iconst 0, 1) := by decide +kernel
theorem dX7_instruction_29 : decode cX7_instruction 29 = .ok (.iconst 5, 1) := by decide +kernel
theorem dX7_instruction_30 : decode cX7_instruction 30 = .ok (.invokestatic 96, 3) := by decide +kernel
theorem dX7_instruction_33 : decode cX7_instruction 33 = .ok (.ifCond .eq 22, 3) := by decide +kernel
theorem dX7_instruction_36 : decode cX7_instruction 36 = .ok (.aload_n 0, 1) := by decide +kernel
theorem dX7_instruction_37 : decode cX7_instruction 37 = .ok (.getfield 7, 3) := by decide +kernel
theorem dX7_instruction_40 : decode cX7_instruction 40 = .ok (.bipush 36, 2) := by decide +kernel
theorem dX7_instruction_42 : decode cX7_instruction 42 = .ok (.iload_n 1, 1) := by decide +kernel
theorem dX7_instruction_43 : decode cX7_instruction 43 = .ok (.imul, 1) := by decide +kernel
theorem dX7_instruction_44 : decode cX7_instruction 44 = .ok (.bipush 6, 2) := by decide +kernel
theorem dX7_instruction_46 : decode cX7_instruction 46 = .ok (.iload_n 2, 1) := by decide +kernel
theorem dX7_instruction_47 : decode cX7_instruction 47 = .ok (.imul, 1) := by decide +kernel
theorem dX7_instruction_48 : decode cX7_instruction 48 = .ok (.iadd, 1) := by decide +kernel
theorem dX7_instruction_49 : decode cX7_instruction 49 = .ok (.iload_n 3, 1) := by decide +kernel
theorem dX7_instruction_50 : decode cX7_instruction 50 = .ok (.iadd, 1) := by decide +kernel
theorem dX7_instruction_51 : decode cX7_instruction 51 = .ok (.iaload, 1) := by decide +kernel
theorem dX7_instruction_52 : decode cX7_instruction 52 = .ok (.goto 5, 3) := by decide +kernel
theorem dX7_instruction_55 : decode cX7_instruction 55 = .ok (.bipush (-2), 2) := by decide +kernel
theorem dX7_instruction_57 : decode cX7_instruction 57 = .ok (.ireturn, 1) := by decide +kernel
set_option maxRecDepth 20000 in
theorem ggX7_count_X7_instructions : GoodIn wsX7_count wsX7_instructions := goodIn_r _ [9, 10, 11, 12, 13, 8, 14, 15, 16, 17, 18, 19, 20, 21, 22, 23, 24, 25, 26, 27, 28, 29, 30, 31, 32, 33, 34, 35, 36, 37, 38, 39, 40, 41, 42, 43, 44, 45, 46, 47, 48, 49] (by decide +kernel) (by decide +kernel)
set_option maxRecDepth 20000 in
theorem gX7_count_X7_instructions : GoodIn wsX7_count (wsV RX7 115 RX7 yX7_instructions wsX7_instructions) := goodIn_app (goodIn_of _ (by decide +kernel)) ggX7_count_X7_instructions
theorem dX7_count_0 : decode cX7_count 0 = .ok (.iload_n 1, 1) := by decide +kernel
theorem dX7_count_1 : decode cX7_count 1 = .ok (.tableswitch 82 0 5 #[39, 39, 39, 45, 61, 66], 39) := by decide +kernel
theorem dX7_count_40 : decode cX7_count 40 = .ok (.aload_n 0, 1) := by decide +kernel
theorem dX7_count_41 : decode cX7_count 41 = .ok (.iload_n 1, 1) := by decide +kernel
theorem dX7_count_42 : decode cX7_count 42 = .ok (.invokevirtual 115, 3) := by decide +kernel
theorem dX7_count_45 : decode cX7_count 45 = .ok (.ireturn, 1) := by decide +kernel
theorem dX7_count_46 : decode cX7_count 46 = .ok (.aload_n 0, 1) := by decide +kernel
theorem dX7_count_47 : decode cX7_count 47 = .ok (.getfield 92, 3) := by decide +kernel
theorem dX7_count_50 : decode cX7_count 50 = .ok (.ifCond .eq 10, 3) := by decide +kernel
theorem dX7_count_53 : decode cX7_count 53 = .ok (.aload_n 0, 1) := by decide +kernel
theorem dX7_count_54 : decode cX7_count 54 = .ok (.getfield 181, 3) := by decide +kernel
theorem dX7_count_57 : decode cX7_count 57 = .ok (.goto 4, 3) := by decide +kernel
theorem dX7_count_60 : decode cX7_count 60 = .ok (.iconst (-1), 1) := by decide +kernel
theorem dX7_count_61 : decode cX7_count 61 = .ok (.ireturn, 1) := by decide +kernel
theorem dX7_count_62 : decode cX7_count 62 = .ok (.aload_n 0, 1) := by decide +kernel
theorem dX7_count_63 : decode cX7_count 63 = .ok (.getfield 88, 3) := by decide +kernel
theorem dX7_count_66 : decode cX7_count 66 = .ok (.ireturn, 1) := by decide +kernel
theorem dX7_count_67 : decode cX7_count 67 = .ok (.aload_n 0, 1) := by decide +kernel
theorem dX7_count_68 : decode cX7_count 68 = .ok (.getfield 92, 3) := by decide +kernel
theorem dX7_count_71 : decode cX7_count 71 = .ok (.ifCond .eq 10, 3) := by decide +kernel
theorem dX7_count_74 : decode cX7_count 74 = .ok (.aload_n 0, 1) := by decide +kernel
theorem dX7_count_75 : decode cX7_count 75 = .ok (.getfield 206, 3) := by decide +kernel
theorem dX7_count_78 : decode cX7_count 78 = .ok (.goto 4, 3) := by decide +kernel
theorem dX7_count_81 : decode cX7_count 81 = .ok (.iconst (-1), 1) := by decide +kernel
theorem dX7_count_82 : decode cX7_count 82 = .ok (.ireturn, 1) := by decide +kernel
theorem dX7_count_83 : decode cX7_count 83 = .ok (.bipush (-2), 2) := by decide +kernel
theorem dX7_count_85 : decode cX7_count 85 = .ok (.ireturn, 1) := by decide +kernel
theorem dJ9_min_7cf53_0 : decode cJ9_min_7cf53 0 = .ok (.iload_n 0, 1) := by decide +kernel
theorem dJ9_min_7cf53_1 : decode cJ9_min_7cf53 1 = .ok (.iload_n 1, 1) := by decide +kernel
theorem dJ9_min_7cf53_2 : decode cJ9_min_7cf53 2 = .ok (.if_icmp .gt 7, 3) := by decide +kernel
theorem dJ9_min_7cf53_5 : decode cJ9_min_7cf53 5 = .ok (.iload_n 0, 1) := by decide +kernel
theorem dJ9_min_7cf53_6 : decode cJ9_min_7cf53 6 = .ok (.goto 4, 3) := by decide +kernel
theorem dJ9_min_7cf53_9 : decode cJ9_min_7cf53 9 = .ok (.iload_n 1, 1) := by decide +kernel
theorem dJ9_min_7cf53_10 : decode cJ9_min_7cf53 10 = .ok (.ireturn, 1) := by decide +kernel
set_option maxRecDepth 20000 in
theorem ggJ0_length_8abf5_J0_coder_7d493 : GoodIn wsJ0_length_8abf5 wsJ0_coder_7d493 := goodIn_r _ [6, 7, 8] (by decide +kernel) (by decide +kernel)
set_option maxRecDepth 20000 in
theorem gJ0_length_8abf5_J0_coder_7d493 : GoodIn wsJ0_length_8abf5 (wsV RJ0 335 RJ0 yJ0_coder_7d493 wsJ0_coder_7d493) := goodIn_app (goodIn_of _ (by decide +kernel)) ggJ0_length_8abf5_J0_coder_7d493
theorem dJ0_length_8abf5_0 : decode cJ0_length_8abf5 0 = .ok (.aload_n 0, 1) := by decide +kernel
theorem dJ0_length_8abf5_1 : decode cJ0_length_8abf5 1 = .ok (.getfield 9, 3) := by decide +kernel
theorem dJ0_length_8abf5_4 : decode cJ0_length_8abf5 4 = .ok (.arraylength, 1) := by decide +kernel
theorem dJ0_length_8abf5_5 : decode cJ0_length_8abf5 5 = .ok (.aload_n 0, 1) := by decide +kernel
theorem dJ0_length_8abf5_6 : decode cJ0_length_8abf5 6 = .ok (.invokevirtual 335, 3) := by decide +kernel
theorem dJ0_length_8abf5_9 : decode cJ0_length_8abf5 9 = .ok (.ishr, 1) := by decide +kernel
theorem dJ0_length_8abf5_10 : decode cJ0_length_8abf5 10 = .ok (.ireturn, 1) := by decide +kernel
set_option maxRecDepth 20000 in
theorem ggJ0_charAt_5068e_J0_isLatin1_aae02 : GoodIn wsJ0_charAt_5068e wsJ0_isLatin1_aae02 := goodIn_r _ [6, 7, 8] (by decide +kernel) (by decide +kernel)
set_option maxRecDepth 20000 in
theorem gJ0_charAt_5068e_J0_isLatin1_aae02 : GoodIn wsJ0_charAt_5068e (wsV RJ0 492 RJ0 yJ0_isLatin1_aae02 wsJ0_isLatin1_aae02) := goodIn_app (goodIn_of _ (by decide +kernel)) ggJ0_charAt_5068e_J0_isLatin1_aae02
set_option maxRecDepth 20000 in
theorem ggJ0_charAt_5068e_J1_charAt_3b067 : GoodIn wsJ0_charAt_5068e wsJ1_charAt_3b067 := goodIn_r _ [12, 13, 14, 5, 15, 16, 17, 18, 19, 20] (by decide +kernel) (by decide +kernel)
set_option maxRecDepth 20000 in
theorem gJ0_charAt_5068e_J1_charAt_3b067 : GoodIn wsJ0_charAt_5068e (va_wsS RJ0 495 yJ1_charAt_3b067 wsJ1_charAt_3b067) := goodIn_app (goodIn_of _ (by decide +kernel)) ggJ0_charAt_5068e_J1_charAt_3b067
set_option maxRecDepth 20000 in
theorem ggJ0_charAt_5068e_J2_charAt_3b067 : GoodIn wsJ0_charAt_5068e wsJ2_charAt_3b067 := goodIn_r _ [24, 25, 26, 23, 27, 28, 29, 30, 31, 14, 5, 15, 16, 17, 18, 19, 20, 32, 33, 34, 35, 36, 37] (by decide +kernel) (by decide +kernel)
set_option maxRecDepth 20000 in
theorem gJ0_charAt_5068e_J2_charAt_3b067 : GoodIn wsJ0_charAt_5068e (va_wsS RJ0 498 yJ2_charAt_3b067 wsJ2_charAt_3b067) := goodIn_app (goodIn_of _ (by decide +kernel)) ggJ0_charAt_5068e_J2_charAt_3b067
theorem dJ0_charAt_5068e_0 : decode cJ0_charAt_5068e 0 = .ok (.aload_n 0, 1) := by decide +kernel
theorem dJ0_charAt_5068e_1 : decode cJ0_charAt_5068e 1 = .ok (.invokevirtual 492, 3) := by decide +kernel
theorem dJ0_charAt_5068e_4 : decode cJ0_charAt_5068e 4 = .ok (.ifCond .eq 12, 3) := by decide +kernel
theorem dJ0_charAt_5068e_7 : decode cJ0_charAt_5068e 7 = .ok (.aload_n 0, 1) := by decide +kernel
theorem dJ0_charAt_5068e_8 : decode cJ0_charAt_5068e 8 = .ok (.getfield 9, 3) := by decide +kernel
theorem dJ0_charAt_5068e_11 : decode cJ0_charAt_5068e 11 = .ok (.iload_n 1, 1) := by decide +kernel
theorem dJ0_charAt_5068e_12 : decode cJ0_charAt_5068e 12 = .ok (.invokestatic 495, 3) := by decide +kernel
theorem dJ0_charAt_5068e_15 : decode cJ0_charAt_5068e 15 = .ok (.ireturn, 1) := by decide +kernel
theorem dJ0_charAt_5068e_16 : decode cJ0_charAt_5068e 16 = .ok (.aload_n 0, 1) := by decide +kernel
theorem dJ0_charAt_5068e_17 : decode cJ0_charAt_5068e 17 = .ok (.getfield 9, 3) := by decide +kernel
theorem dJ0_charAt_5068e_20 : decode cJ0_charAt_5068e 20 = .ok (.iload_n 1, 1) := by decide +kernel
theorem dJ0_charAt_5068e_21 : decode cJ0_charAt_5068e 21 = .ok (.invokestatic 498, 3) := by decide +kernel
theorem dJ0_charAt_5068e_24 : decode cJ0_charAt_5068e 24 = .ok (.ireturn, 1) := by decide +kernel
theorem dJ0_coder_7d493_0 : decode cJ0_coder_7d493 0 = .ok (.getstatic 38, 3) := by decide +kernel
theorem dJ0_coder_7d493_3 : decode cJ0_coder_7d493 3 = .ok (.ifCond .eq 10, 3) := by decide +kernel
theorem dJ0_coder_7d493_6 : decode cJ0_coder_7d493 6 = .ok (.aload_n 0, 1) := by decide +kernel
theorem dJ0_coder_7d493_7 : decode cJ0_coder_7d493 7 = .ok (.getfield 15, 3) := by decide +kernel
theorem dJ0_coder_7d493_10 : decode cJ0_coder_7d493 10 = .ok (.goto 4, 3) := by decide +kernel
theorem dJ0_coder_7d493_13 : decode cJ0_coder_7d493 13 = .ok (.iconst 1, 1) := by decide +kernel
theorem dJ0_coder_7d493_14 : decode cJ0_coder_7d493 14 = .ok (.ireturn, 1) := by decide +kernel
theorem dJ0_isLatin1_aae02_0 : decode cJ0_isLatin1_aae02 0 = .ok (.getstatic 38, 3) := by decide +kernel
theorem dJ0_isLatin1_aae02_3 : decode cJ0_isLatin1_aae02 3 = .ok (.ifCond .eq 14, 3) := by decide +kernel
theorem dJ0_isLatin1_aae02_6 : decode cJ0_isLatin1_aae02 6 = .ok (.aload_n 0, 1) := by decide +kernel
theorem dJ0_isLatin1_aae02_7 : decode cJ0_isLatin1_aae02 7 = .ok (.getfield 15, 3) := by decide +kernel
theorem dJ0_isLatin1_aae02_10 : decode cJ0_isLatin1_aae02 10 = .ok (.ifCond .ne 7, 3) := by decide +kernel
theorem dJ0_isLatin1_aae02_13 : decode cJ0_isLatin1_aae02 13 = .ok (.iconst 1, 1) := by decide +kernel
theorem dJ0_isLatin1_aae02_14 : decode cJ0_isLatin1_aae02 14 = .ok (.goto 4, 3) := by decide +kernel
theorem dJ0_isLatin1_aae02_17 : decode cJ0_isLatin1_aae02 17 = .ok (.iconst 0, 1) := by decide +kernel
theorem dJ0_isLatin1_aae02_18 : decode cJ0_isLatin1_aae02 18 = .ok (.ireturn, 1) := by decide +kernel
set_option maxRecDepth 20000 in
theorem ggJ0_checkIndex_df160_J3_checkIndex_8e157 : GoodIn wsJ0_checkIndex_df160 wsJ3_checkIndex_8e157 := goodIn_r _ [5] (by decide +kernel) (by decide +kernel)
set_option maxRecDepth 20000 in
theorem gJ0_checkIndex_df160_J3_checkIndex_8e157 : GoodIn wsJ0_checkIndex_df160 (va_wsS RJ0 1059 yJ3_checkIndex_8e157 wsJ3_checkIndex_8e157) := goodIn_app (goodIn_of _ (by decide +kernel)) ggJ0_checkIndex_df160_J3_checkIndex_8e157
theorem dJ0_checkIndex_df160_0 : decode cJ0_checkIndex_df160 0 = .ok (.iload_n 0, 1) := by decide +kernel
theorem dJ0_checkIndex_df160_1 : decode cJ0_checkIndex_df160 1 = .ok (.iload_n 1, 1) := by decide +kernel
theorem dJ0_checkIndex_df160_2 : decode cJ0_checkIndex_df160 2 = .ok (.getstatic 1053, 3) := by decide +kernel
theorem dJ0_checkIndex_df160_5 : decode cJ0_checkIndex_df160 5 = .ok (.invokestatic 1059, 3) := by decide +kernel
theorem dJ0_checkIndex_df160_8 : decode cJ0_checkIndex_df160 8 = .ok (.pop, 1) := by decide +kernel
theorem dJ0_checkIndex_df160_9 : decode cJ0_checkIndex_df160 9 = .ok (.return_, 1) := by decide +kernel
set_option maxRecDepth 20000 in
theorem ggJ1_charAt_3b067_J0_checkIndex_df160 : GoodIn wsJ1_charAt_3b067 wsJ0_checkIndex_df160 := goodIn_r _ [4, 5, 6, 7, 8, 9] (by decide +kernel) (by decide +kernel)
set_option maxRecDepth 20000 in
theorem gJ1_charAt_3b067_J0_checkIndex_df160 : GoodIn wsJ1_charAt_3b067 (va_wsS RJ1 9 yJ0_checkIndex_df160 wsJ0_checkIndex_df160) := goodIn_app (goodIn_of _ (by decide +kernel)) ggJ1_charAt_3b067_J0_checkIndex_df160
theorem dJ1_charAt_3b067_0 : decode cJ1_charAt_3b067 0 = .ok (.iload_n 1, 1) := by decide +kernel
theorem dJ1_charAt_3b067_1 : decode cJ1_charAt_3b067 1 = .ok (.aload_n 0, 1) := by decide +kernel
theorem dJ1_charAt_3b067_2 : decode cJ1_charAt_3b067 2 = .ok (.arraylength, 1) := by decide +kernel
theorem dJ1_charAt_3b067_3 : decode cJ1_charAt_3b067 3 = .ok (.invokestatic 9, 3) := by decide +kernel
theorem dJ1_charAt_3b067_6 : decode cJ1_charAt_3b067 6 = .ok (.aload_n 0, 1) := by decide +kernel
theorem dJ1_charAt_3b067_7 : decode cJ1_charAt_3b067 7 = .ok (.iload_n 1, 1) := by decide +kernel
theorem dJ1_charAt_3b067_8 : decode cJ1_charAt_3b067 8 = .ok (.baload, 1) := by decide +kernel
theorem dJ1_charAt_3b067_9 : decode cJ1_charAt_3b067 9 = .ok (.sipush 255, 3) := by decide +kernel
theorem dJ1_charAt_3b067_12 : decode cJ1_charAt_3b067 12 = .ok (.iand, 1) := by decide +kernel
theorem dJ1_charAt_3b067_13 : decode cJ1_charAt_3b067 13 = .ok (.i2c, 1) := by decide +kernel
theorem dJ1_charAt_3b067_14 : decode cJ1_charAt_3b067 14 = .ok (.ireturn, 1) := by decide +kernel
set_option maxRecDepth 20000 in
theorem ggJ2_getChar_3b067_J2_length_9d52b : GoodIn wsJ2_getChar_3b067 wsJ2_length_9d52b := goodIn_r _ [7] (by decide +kernel) (by decide +kernel)
set_option maxRecDepth 20000 in
theorem gJ2_getChar_3b067_J2_length_9d52b : GoodIn wsJ2_getChar_3b067 (va_wsS RJ2 48 yJ2_length_9d52b wsJ2_length_9d52b) := goodIn_app (goodIn_of _ (by decide +kernel)) ggJ2_getChar_3b067_J2_length_9d52b
theorem dJ2_getChar_3b067_0 : decode cJ2_getChar_3b067 0 = .ok (.getstatic 44, 3) := by decide +kernel
theorem dJ2_getChar_3b067_3 : decode cJ2_getChar_3b067 3 = .ok (.ifCond .ne 25, 3) := by decide +kernel
theorem dJ2_getChar_3b067_6 : decode cJ2_getChar_3b067 6 = .ok (.iload_n 1, 1) := by decide +kernel
theorem dJ2_getChar_3b067_7 : decode cJ2_getChar_3b067 7 = .ok (.ifCond .lt 11, 3) := by decide +kernel
theorem dJ2_getChar_3b067_10 : decode cJ2_getChar_3b067 10 = .ok (.iload_n 1, 1) := by decide +kernel
theorem dJ2_getChar_3b067_11 : decode cJ2_getChar_3b067 11 = .ok (.aload_n 0, 1) := by decide +kernel
theorem dJ2_getChar_3b067_12 : decode cJ2_getChar_3b067 12 = .ok (.invokestatic 48, 3) := by decide +kernel
theorem dJ2_getChar_3b067_15 : decode cJ2_getChar_3b067 15 = .ok (.if_icmp .lt 13, 3) := by decide +kernel
theorem dJ2_getChar_3b067_18 : decode cJ2_getChar_3b067 18 = .ok (.new 52, 3) := by decide +kernel
theorem dJ2_getChar_3b067_21 : decode cJ2_getChar_3b067 21 = .ok (.dup, 1) := by decide +kernel
theorem dJ2_getChar_3b067_22 : decode cJ2_getChar_3b067 22 = .ok (.ldc 54, 2) := by decide +kernel
theorem dJ2_getChar_3b067_24 : decode cJ2_getChar_3b067 24 = .ok (.invokespecial 56, 3) := by decide +kernel
theorem dJ2_getChar_3b067_27 : decode cJ2_getChar_3b067 27 = .ok (.athrow, 1) := by decide +kernel
theorem dJ2_getChar_3b067_28 : decode cJ2_getChar_3b067 28 = .ok (.iload_n 1, 1) := by decide +kernel
theorem dJ2_getChar_3b067_29 : decode cJ2_getChar_3b067 29 = .ok (.iconst 1, 1) := by decide +kernel
theorem dJ2_getChar_3b067_30 : decode cJ2_getChar_3b067 30 = .ok (.ishl, 1) := by decide +kernel
theorem dJ2_getChar_3b067_31 : decode cJ2_getChar_3b067 31 = .ok (.istore_n 1, 1) := by decide +kernel
theorem dJ2_getChar_3b067_32 : decode cJ2_getChar_3b067 32 = .ok (.aload_n 0, 1) := by decide +kernel
theorem dJ2_getChar_3b067_33 : decode cJ2_getChar_3b067 33 = .ok (.iload_n 1, 1) := by decide +kernel
theorem dJ2_getChar_3b067_34 : decode cJ2_getChar_3b067 34 = .ok (.iinc 1 1, 3) := by decide +kernel
theorem dJ2_getChar_3b067_37 : decode cJ2_getChar_3b067 37 = .ok (.baload, 1) := by decide +kernel
theorem dJ2_getChar_3b067_38 : decode cJ2_getChar_3b067 38 = .ok (.sipush 255, 3) := by decide +kernel
theorem dJ2_getChar_3b067_41 : decode cJ2_getChar_3b067 41 = .ok (.iand, 1) := by decide +kernel
theorem dJ2_getChar_3b067_42 : decode cJ2_getChar_3b067 42 = .ok (.getstatic 59, 3) := by decide +kernel
theorem dJ2_getChar_3b067_45 : decode cJ2_getChar_3b067 45 = .ok (.ishl, 1) := by decide +kernel
theorem dJ2_getChar_3b067_46 : decode cJ2_getChar_3b067 46 = .ok (.aload_n 0, 1) := by decide +kernel
theorem dJ2_getChar_3b067_47 : decode cJ2_getChar_3b067 47 = .ok (.iload_n 1, 1) := by decide +kernel
theorem dJ2_getChar_3b067_48 : decode cJ2_getChar_3b067 48 = .ok (.baload, 1) := by decide +kernel
theorem dJ2_getChar_3b067_49 : decode cJ2_getChar_3b067 49 = .ok (.sipush 255, 3) := by decide +kernel
theorem dJ2_getChar_3b067_52 : decode cJ2_getChar_3b067 52 = .ok (.iand, 1) := by decide +kernel
theorem dJ2_getChar_3b067_53 : decode cJ2_getChar_3b067 53 = .ok (.getstatic 63, 3) := by decide +kernel
theorem dJ2_getChar_3b067_56 : decode cJ2_getChar_3b067 56 = .ok (.ishl, 1) := by decide +kernel
theorem dJ2_getChar_3b067_57 : decode cJ2_getChar_3b067 57 = .ok (.ior, 1) := by decide +kernel
theorem dJ2_getChar_3b067_58 : decode cJ2_getChar_3b067 58 = .ok (.i2c, 1) := by decide +kernel
theorem dJ2_getChar_3b067_59 : decode cJ2_getChar_3b067 59 = .ok (.ireturn, 1) := by decide +kernel
theorem dJ2_length_9d52b_0 : decode cJ2_length_9d52b 0 = .ok (.aload_n 0, 1) := by decide +kernel
theorem dJ2_length_9d52b_1 : decode cJ2_length_9d52b 1 = .ok (.arraylength, 1) := by decide +kernel
theorem dJ2_length_9d52b_2 : decode cJ2_length_9d52b 2 = .ok (.iconst 1, 1) := by decide +kernel
theorem dJ2_length_9d52b_3 : decode cJ2_length_9d52b 3 = .ok (.ishr, 1) := by decide +kernel
theorem dJ2_length_9d52b_4 : decode cJ2_length_9d52b 4 = .ok (.ireturn, 1) := by decide +kernel
set_option maxRecDepth 20000 in
theorem ggJ2_charAt_3b067_J2_checkIndex_2214a : GoodIn wsJ2_charAt_3b067 wsJ2_checkIndex_2214a := goodIn_r _ [4, 5, 6, 3, 7, 8, 9, 10, 11, 12, 13, 14, 15, 16] (by decide +kernel) (by decide +kernel)
set_option maxRecDepth 20000 in
theorem gJ2_charAt_3b067_J2_checkIndex_2214a : GoodIn wsJ2_charAt_3b067 (va_wsS RJ2 67 yJ2_checkIndex_2214a wsJ2_checkIndex_2214a) := goodIn_app (goodIn_of _ (by decide +kernel)) ggJ2_charAt_3b067_J2_checkIndex_2214a
set_option maxRecDepth 20000 in
theorem ggJ2_charAt_3b067_J2_getChar_3b067 : GoodIn wsJ2_charAt_3b067 wsJ2_getChar_3b067 := goodIn_r _ [19, 20, 21, 22, 5, 6, 3, 7] (by decide +kernel) (by decide +kernel)
set_option maxRecDepth 20000 in
theorem gJ2_charAt_3b067_J2_getChar_3b067 : GoodIn wsJ2_charAt_3b067 (va_wsS RJ2 71 yJ2_getChar_3b067 wsJ2_getChar_3b067) := goodIn_app (goodIn_of _ (by decide +kernel)) ggJ2_charAt_3b067_J2_getChar_3b067
theorem dJ2_charAt_3b067_0 : decode cJ2_charAt_3b067 0 = .ok (.iload_n 1, 1) := by decide +kernel
theorem dJ2_charAt_3b067_1 : decode cJ2_charAt_3b067 1 = .ok (.aload_n 0, 1) := by decide +kernel
theorem dJ2_charAt_3b067_2 : decode cJ2_charAt_3b067 2 = .ok (.invokestatic 67, 3) := by decide +kernel
theorem dJ2_charAt_3b067_5 : decode cJ2_charAt_3b067 5 = .ok (.aload_n 0, 1) := by decide +kernel
theorem dJ2_charAt_3b067_6 : decode cJ2_charAt_3b067 6 = .ok (.iload_n 1, 1) := by decide +kernel
theorem dJ2_charAt_3b067_7 : decode cJ2_charAt_3b067 7 = .ok (.invokestatic 71, 3) := by decide +kernel
theorem dJ2_charAt_3b067_10 : decode cJ2_charAt_3b067 10 = .ok (.ireturn, 1) := by decide +kernel
set_option maxRecDepth 20000 in
theorem ggJ2_checkIndex_2214a_J2_length_9d52b : GoodIn wsJ2_checkIndex_2214a wsJ2_length_9d52b := goodIn_r _ [4] (by decide +kernel) (by decide +kernel)
set_option maxRecDepth 20000 in
theorem gJ2_checkIndex_2214a_J2_length_9d52b : GoodIn wsJ2_checkIndex_2214a (va_wsS RJ2 48 yJ2_length_9d52b wsJ2_length_9d52b) := goodIn_app (goodIn_of _ (by decide +kernel)) ggJ2_checkIndex_2214a_J2_length_9d52b
set_option maxRecDepth 20000 in
theorem ggJ2_checkIndex_2214a_J0_checkIndex_df160 : GoodIn wsJ2_checkIndex_2214a wsJ0_checkIndex_df160 := goodIn_r _ [8, 9, 10, 11, 12, 13] (by decide +kernel) (by decide +kernel)
set_option maxRecDepth 20000 in
theorem gJ2_checkIndex_2214a_J0_checkIndex_df160 : GoodIn wsJ2_checkIndex_2214a (va_wsS RJ2 414 yJ0_checkIndex_df160 wsJ0_checkIndex_df160) := goodIn_app (goodIn_of _ (by decide +kernel)) ggJ2_checkIndex_2214a_J0_checkIndex_df160
theorem dJ2_checkIndex_2214a_0 : decode cJ2_checkIndex_2214a 0 = .ok (.iload_n 0, 1) := by decide +kernel
theorem dJ2_checkIndex_2214a_1 : decode cJ2_checkIndex_2214a 1 = .ok (.aload_n 1, 1) := by decide +kernel
theorem dJ2_checkIndex_2214a_2 : decode cJ2_checkIndex_2214a 2 = .ok (.invokestatic 48, 3) := by decide +kernel
theorem dJ2_checkIndex_2214a_5 : decode cJ2_checkIndex_2214a 5 = .ok (.invokestatic 414, 3) := by decide +kernel
theorem dJ2_checkIndex_2214a_8 : decode cJ2_checkIndex_2214a 8 = .ok (.return_, 1) := by decide +kernel
theorem dJ7_fill_53178_0 : decode cJ7_fill_53178 0 = .ok (.iconst 0, 1) := by decide +kernel
theorem dJ7_fill_53178_1 : decode cJ7_fill_53178 1 = .ok (.istore_n 2, 1) := by decide +kernel
theorem dJ7_fill_53178_2 : decode cJ7_fill_53178 2 = .ok (.aload_n 0, 1) := by decide +kernel
theorem dJ7_fill_53178_3 : decode cJ7_fill_53178 3 = .ok (.arraylength, 1) := by decide +kernel
theorem dJ7_fill_53178_4 : decode cJ7_fill_53178 4 = .ok (.istore_n 3, 1) := by decide +kernel
theorem dJ7_fill_53178_5 : decode cJ7_fill_53178 5 = .ok (.iload_n 2, 1) := by decide +kernel
theorem dJ7_fill_53178_6 : decode cJ7_fill_53178 6 = .ok (.iload_n 3, 1) := by decide +kernel
theorem dJ7_fill_53178_7 : decode cJ7_fill_53178 7 = .ok (.if_icmp .ge 13, 3) := by decide +kernel
theorem dJ7_fill_53178_10 : decode cJ7_fill_53178 10 = .ok (.aload_n 0, 1) := by decide +kernel
theorem dJ7_fill_53178_11 : decode cJ7_fill_53178 11 = .ok (.iload_n 2, 1) := by decide +kernel
theorem dJ7_fill_53178_12 : decode cJ7_fill_53178 12 = .ok (.iload_n 1, 1) := by decide +kernel
theorem dJ7_fill_53178_13 : decode cJ7_fill_53178 13 = .ok (.iastore, 1) := by decide +kernel
theorem dJ7_fill_53178_14 : decode cJ7_fill_53178 14 = .ok (.iinc 2 1, 3) := by decide +kernel
theorem dJ7_fill_53178_17 : decode cJ7_fill_53178 17 = .ok (.goto (-12), 3) := by decide +kernel
theorem dJ7_fill_53178_20 : decode cJ7_fill_53178 20 = .ok (.return_, 1) := by decide +kernel
theorem dJ7_copyOf_c38d5_0 : decode cJ7_copyOf_c38d5 0 = .ok (.iload_n 1, 1) := by decide +kernel
theorem dJ7_copyOf_c38d5_1 : decode cJ7_copyOf_c38d5 1 = .ok (.aload_n 0, 1) := by decide +kernel
theorem dJ7_copyOf_c38d5_2 : decode cJ7_copyOf_c38d5 2 = .ok (.arraylength, 1) := by decide +kernel
theorem dJ7_copyOf_c38d5_3 : decode cJ7_copyOf_c38d5 3 = .ok (.if_icmp .ne 11, 3) := by decide +kernel
theorem dJ7_copyOf_c38d5_6 : decode cJ7_copyOf_c38d5 6 = .ok (.aload_n 0, 1) := by decide +kernel
theorem dJ7_copyOf_c38d5_7 : decode cJ7_copyOf_c38d5 7 = .ok (.invokevirtual 319, 3) := by decide +kernel
theorem dJ7_copyOf_c38d5_10 : decode cJ7_copyOf_c38d5 10 = .ok (.checkcast 320, 3) := by decide +kernel
theorem dJ7_copyOf_c38d5_13 : decode cJ7_copyOf_c38d5 13 = .ok (.areturn, 1) := by decide +kernel
theorem dJ7_copyOf_c38d5_14 : decode cJ7_copyOf_c38d5 14 = .ok (.iload_n 1, 1) := by decide +kernel
theorem dJ7_copyOf_c38d5_15 : decode cJ7_copyOf_c38d5 15 = .ok (.newarray .long, 2) := by decide +kernel
theorem dJ7_copyOf_c38d5_17 : decode cJ7_copyOf_c38d5 17 = .ok (.astore_n 2, 1) := by decide +kernel
theorem dJ7_copyOf_c38d5_18 : decode cJ7_copyOf_c38d5 18 = .ok (.aload_n 0, 1) := by decide +kernel
theorem dJ7_copyOf_c38d5_19 : decode cJ7_copyOf_c38d5 19 = .ok (.iconst 0, 1) := by decide +kernel
theorem dJ7_copyOf_c38d5_20 : decode cJ7_copyOf_c38d5 20 = .ok (.aload_n 2, 1) := by decide +kernel
theorem dJ7_copyOf_c38d5_21 : decode cJ7_copyOf_c38d5 21 = .ok (.iconst 0, 1) := by decide +kernel
theorem dJ7_copyOf_c38d5_22 : decode cJ7_copyOf_c38d5 22 = .ok (.aload_n 0, 1) := by decide +kernel
theorem dJ7_copyOf_c38d5_23 : decode cJ7_copyOf_c38d5 23 = .ok (.arraylength, 1) := by decide +kernel
theorem dJ7_copyOf_c38d5_24 : decode cJ7_copyOf_c38d5 24 = .ok (.iload_n 1, 1) := by decide +kernel
theorem dJ7_copyOf_c38d5_25 : decode cJ7_copyOf_c38d5 25 = .ok (.invokestatic 304, 3) := by decide +kernel
theorem dJ7_copyOf_c38d5_28 : decode cJ7_copyOf_c38d5 28 = .ok (.invokestatic 150, 3) := by decide +kernel
theorem dJ7_copyOf_c38d5_31 : decode cJ7_copyOf_c38d5 31 = .ok (.aload_n 2, 1) := by decide +kernel
theorem dJ7_copyOf_c38d5_32 : decode cJ7_copyOf_c38d5 32 = .ok (.areturn, 1) := by decide +kernel
theorem dJ3_checkIndex_8e157_0 : decode cJ3_checkIndex_8e157 0 = .ok (.iload_n 0, 1) := by decide +kernel
theorem dJ3_checkIndex_8e157_1 : decode cJ3_checkIndex_8e157 1 = .ok (.ifCond .lt 8, 3) := by decide +kernel
theorem dJ3_checkIndex_8e157_4 : decode cJ3_checkIndex_8e157 4 = .ok (.iload_n 0, 1) := by decide +kernel
theorem dJ3_checkIndex_8e157_5 : decode cJ3_checkIndex_8e157 5 = .ok (.iload_n 1, 1) := by decide +kernel
theorem dJ3_checkIndex_8e157_6 : decode cJ3_checkIndex_8e157 6 = .ok (.if_icmp .lt 10, 3) := by decide +kernel
theorem dJ3_checkIndex_8e157_9 : decode cJ3_checkIndex_8e157 9 = .ok (.aload_n 2, 1) := by decide +kernel
theorem dJ3_checkIndex_8e157_10 : decode cJ3_checkIndex_8e157 10 = .ok (.iload_n 0, 1) := by decide +kernel
theorem dJ3_checkIndex_8e157_11 : decode cJ3_checkIndex_8e157 11 = .ok (.iload_n 1, 1) := by decide +kernel
theorem dJ3_checkIndex_8e157_12 : decode cJ3_checkIndex_8e157 12 = .ok (.invokestatic 95, 3) := by decide +kernel
theorem dJ3_checkIndex_8e157_15 : decode cJ3_checkIndex_8e157 15 = .ok (.athrow, 1) := by decide +kernel
theorem dJ3_checkIndex_8e157_16 : decode cJ3_checkIndex_8e157 16 = .ok (.iload_n 0, 1) := by decide +kernel
theorem dJ3_checkIndex_8e157_17 : decode cJ3_checkIndex_8e157 17 = .ok (.ireturn, 1) := by decide +kernel
