theorem dX4_append_56 : decode cX4_append 56 = .ok (.getfield 27, 3) := by decide +kernel
theorem dX4_append_59 : decode cX4_append 59 = .ok (.iconst 4, 1) := by decide +kernel
theorem dX4_append_60 : decode cX4_append 60 = .ok (.if_icmp .lt 7, 3) := by decide +kernel
theorem dX4_append_63 : decode cX4_append 63 = .ok (.iconst 1, 1) := by decide +kernel
theorem dX4_append_64 : decode cX4_append 64 = .ok (.goto 4, 3) := by decide +kernel
theorem dX4_append_67 : decode cX4_append 67 = .ok (.iconst 0, 1) := by decide +kernel
theorem dX4_append_68 : decode cX4_append 68 = .ok (.istore 4, 2) := by decide +kernel
theorem dX4_append_70 : decode cX4_append 70 = .ok (.aload_n 0, 1) := by decide +kernel
theorem dX4_append_71 : decode cX4_append 71 = .ok (.getfield 16, 3) := by decide +kernel
theorem dX4_append_74 : decode cX4_append 74 = .ok (.iload_n 1, 1) := by decide +kernel
theorem dX4_append_75 : decode cX4_append 75 = .ok (.iaload, 1) := by decide +kernel
theorem dX4_append_76 : decode cX4_append 76 = .ok (.bipush 6, 2) := by decide +kernel
theorem dX4_append_78 : decode cX4_append 78 = .ok (.if_icmp .ge 12, 3) := by decide +kernel
theorem dX4_append_81 : decode cX4_append 81 = .ok (.iload_n 3, 1) := by decide +kernel
theorem dX4_append_82 : decode cX4_append 82 = .ok (.ifCond .ne 8, 3) := by decide +kernel
theorem dX4_append_85 : decode cX4_append 85 = .ok (.iload 4, 2) := by decide +kernel
theorem dX4_append_87 : decode cX4_append 87 = .ok (.ifCond .eq 6, 3) := by decide +kernel
theorem dX4_append_90 : decode cX4_append 90 = .ok (.bipush (-3), 2) := by decide +kernel
theorem dX4_append_92 : decode cX4_append 92 = .ok (.ireturn, 1) := by decide +kernel
theorem dX4_append_93 : decode cX4_append 93 = .ok (.aload_n 0, 1) := by decide +kernel
theorem dX4_append_94 : decode cX4_append 94 = .ok (.dup, 1) := by decide +kernel
theorem dX4_append_95 : decode cX4_append 95 = .ok (.getfield 23, 3) := by decide +kernel
theorem dX4_append_98 : decode cX4_append 98 = .ok (.iload_n 2, 1) := by decide +kernel
theorem dX4_append_99 : decode cX4_append 99 = .ok (.invokestatic 44, 3) := by decide +kernel
theorem dX4_append_102 : decode cX4_append 102 = .ok (.ifCond .eq 7, 3) := by decide +kernel
theorem dX4_append_105 : decode cX4_append 105 = .ok (.iconst 1, 1) := by decide +kernel
theorem dX4_append_106 : decode cX4_append 106 = .ok (.goto 4, 3) := by decide +kernel
theorem dX4_append_109 : decode cX4_append 109 = .ok (.iconst 0, 1) := by decide +kernel
theorem dX4_append_110 : decode cX4_append 110 = .ok (.iadd, 1) := by decide +kernel
theorem dX4_append_111 : decode cX4_append 111 = .ok (.putfield 23, 3) := by decide +kernel
theorem dX4_append_114 : decode cX4_append 114 = .ok (.aload_n 0, 1) := by decide +kernel
theorem dX4_append_115 : decode cX4_append 115 = .ok (.dup, 1) := by decide +kernel
theorem dX4_append_116 : decode cX4_append 116 = .ok (.getfield 27, 3) := by decide +kernel
theorem dX4_append_119 : decode cX4_append 119 = .ok (.iload_n 2, 1) := by decide +kernel
theorem dX4_append_120 : decode cX4_append 120 = .ok (.invokestatic 48, 3) := by decide +kernel
theorem dX4_append_123 : decode cX4_append 123 = .ok (.ifCond .eq 7, 3) := by decide +kernel
theorem dX4_append_126 : decode cX4_append 126 = .ok (.iconst 1, 1) := by decide +kernel
theorem dX4_append_127 : decode cX4_append 127 = .ok (.goto 4, 3) := by decide +kernel
theorem dX4_append_130 : decode cX4_append 130 = .ok (.iconst 0, 1) := by decide +kernel
theorem dX4_append_131 : decode cX4_append 131 = .ok (.iadd, 1) := by decide +kernel
theorem dX4_append_132 : decode cX4_append 132 = .ok (.putfield 27, 3) := by decide +kernel
theorem dX4_append_135 : decode cX4_append 135 = .ok (.aload_n 0, 1) := by decide +kernel
theorem dX4_append_136 : decode cX4_append 136 = .ok (.getfield 16, 3) := by decide +kernel
theorem dX4_append_139 : decode cX4_append 139 = .ok (.iload_n 1, 1) := by decide +kernel
theorem dX4_append_140 : decode cX4_append 140 = .ok (.iaload, 1) := by decide +kernel
theorem dX4_append_141 : decode cX4_append 141 = .ok (.istore 5, 2) := by decide +kernel
theorem dX4_append_143 : decode cX4_append 143 = .ok (.aload_n 0, 1) := by decide +kernel
theorem dX4_append_144 : decode cX4_append 144 = .ok (.aload_n 0, 1) := by decide +kernel
theorem dX4_append_145 : decode cX4_append 145 = .ok (.iload_n 1, 1) := by decide +kernel
theorem dX4_append_146 : decode cX4_append 146 = .ok (.iload 5, 2) := by decide +kernel
theorem dX4_append_148 : decode cX4_append 148 = .ok (.invokevirtual 51, 3) := by decide +kernel
theorem dX4_append_151 : decode cX4_append 151 = .ok (.invokevirtual 55, 3) := by decide +kernel
theorem dX4_append_154 : decode cX4_append 154 = .ok (.aload_n 0, 1) := by decide +kernel
theorem dX4_append_155 : decode cX4_append 155 = .ok (.getfield 16, 3) := by decide +kernel
theorem dX4_append_158 : decode cX4_append 158 = .ok (.iload_n 1, 1) := by decide +kernel
theorem dX4_append_159 : decode cX4_append 159 = .ok (.dup2, 1) := by decide +kernel
theorem dX4_append_160 : decode cX4_append 160 = .ok (.iaload, 1) := by decide +kernel
theorem dX4_append_161 : decode cX4_append 161 = .ok (.iconst 1, 1) := by decide +kernel
theorem dX4_append_162 : decode cX4_append 162 = .ok (.iadd, 1) := by decide +kernel
theorem dX4_append_163 : decode cX4_append 163 = .ok (.iastore, 1) := by decide +kernel
theorem dX4_append_164 : decode cX4_append 164 = .ok (.iload 5, 2) := by decide +kernel
theorem dX4_append_166 : decode cX4_append 166 = .ok (.ireturn, 1) := by decide +kernel
set_option maxRecDepth 20000 in
theorem ggX4_isDraftGood_X4_formOf : GoodIn wsX4_isDraftGood wsX4_formOf := goodIn_r _ [5] (by decide +kernel) (by decide +kernel)
set_option maxRecDepth 20000 in
theorem gX4_isDraftGood_X4_formOf : GoodIn wsX4_isDraftGood (va_wsS RX4 59 yX4_formOf wsX4_formOf) := goodIn_app (goodIn_of _ (by decide +kernel)) ggX4_isDraftGood_X4_formOf
set_option maxRecDepth 20000 in
theorem ggX4_isDraftGood_J0_length_8abf5 : GoodIn wsX4_isDraftGood wsJ0_length_8abf5 := goodIn_r _ [10, 11, 12, 13, 14, 9, 15, 16, 17] (by decide +kernel) (by decide +kernel)
set_option maxRecDepth 20000 in
theorem gX4_isDraftGood_J0_length_8abf5 : GoodIn wsX4_isDraftGood (wsV RX4 63 RJ0 yJ0_length_8abf5 wsJ0_length_8abf5) := goodIn_app (goodIn_of _ (by decide +kernel)) ggX4_isDraftGood_J0_length_8abf5
set_option maxRecDepth 20000 in
theorem ggX4_isDraftGood_J0_charAt_5068e : GoodIn wsX4_isDraftGood wsJ0_charAt_5068e := goodIn_r _ [21, 11, 22, 23, 24, 9, 25, 16, 17, 26, 27, 28, 29, 30, 31, 32, 33, 34, 35, 36, 37, 38, 39, 40, 41, 42, 43, 44, 45, 46, 47, 48, 49, 50, 51, 52, 53, 54] (by decide +kernel) (by decide +kernel)
set_option maxRecDepth 20000 in
theorem gX4_isDraftGood_J0_charAt_5068e : GoodIn wsX4_isDraftGood (wsV RX4 68 RJ0 yJ0_charAt_5068e wsJ0_charAt_5068e) := goodIn_app (goodIn_of _ (by decide +kernel)) ggX4_isDraftGood_J0_charAt_5068e
set_option maxRecDepth 20000 in
theorem ggX4_isDraftGood_X4_isOfSort : GoodIn wsX4_isDraftGood wsX4_isOfSort := goodIn_r _ [57] (by decide +kernel) (by decide +kernel)
set_option maxRecDepth 20000 in
theorem gX4_isDraftGood_X4_isOfSort : GoodIn wsX4_isDraftGood (va_wsS RX4 72 yX4_isOfSort wsX4_isOfSort) := goodIn_app (goodIn_of _ (by decide +kernel)) ggX4_isDraftGood_X4_isOfSort
theorem dX4_isDraftGood_0 : decode cX4_isDraftGood 0 = .ok (.aload_n 0, 1) := by decide +kernel
theorem dX4_isDraftGood_1 : decode cX4_isDraftGood 1 = .ok (.getfield 20, 3) := by decide +kernel
theorem dX4_isDraftGood_4 : decode cX4_isDraftGood 4 = .ok (.iconst 0, 1) := by decide +kernel
theorem dX4_isDraftGood_5 : decode cX4_isDraftGood 5 = .ok (.iaload, 1) := by decide +kernel
theorem dX4_isDraftGood_6 : decode cX4_isDraftGood 6 = .ok (.ifCond .lt 14, 3) := by decide +kernel
theorem dX4_isDraftGood_9 : decode cX4_isDraftGood 9 = .ok (.aload_n 0, 1) := by decide +kernel
theorem dX4_isDraftGood_10 : decode cX4_isDraftGood 10 = .ok (.getfield 20, 3) := by decide +kernel
theorem dX4_isDraftGood_13 : decode cX4_isDraftGood 13 = .ok (.iconst 0, 1) := by decide +kernel
theorem dX4_isDraftGood_14 : decode cX4_isDraftGood 14 = .ok (.iaload, 1) := by decide +kernel
theorem dX4_isDraftGood_15 : decode cX4_isDraftGood 15 = .ok (.bipush 11, 2) := by decide +kernel
theorem dX4_isDraftGood_17 : decode cX4_isDraftGood 17 = .ok (.if_icmp .lt 5, 3) := by decide +kernel
theorem dX4_isDraftGood_20 : decode cX4_isDraftGood 20 = .ok (.iconst 0, 1) := by decide +kernel
theorem dX4_isDraftGood_21 : decode cX4_isDraftGood 21 = .ok (.ireturn, 1) := by decide +kernel
theorem dX4_isDraftGood_22 : decode cX4_isDraftGood 22 = .ok (.aload_n 0, 1) := by decide +kernel
theorem dX4_isDraftGood_23 : decode cX4_isDraftGood 23 = .ok (.getfield 20, 3) := by decide +kernel
theorem dX4_isDraftGood_26 : decode cX4_isDraftGood 26 = .ok (.iconst 0, 1) := by decide +kernel
theorem dX4_isDraftGood_27 : decode cX4_isDraftGood 27 = .ok (.iaload, 1) := by decide +kernel
theorem dX4_isDraftGood_28 : decode cX4_isDraftGood 28 = .ok (.invokestatic 59, 3) := by decide +kernel
theorem dX4_isDraftGood_31 : decode cX4_isDraftGood 31 = .ok (.astore_n 1, 1) := by decide +kernel
theorem dX4_isDraftGood_32 : decode cX4_isDraftGood 32 = .ok (.iconst 0, 1) := by decide +kernel
theorem dX4_isDraftGood_33 : decode cX4_isDraftGood 33 = .ok (.istore_n 2, 1) := by decide +kernel
theorem dX4_isDraftGood_34 : decode cX4_isDraftGood 34 = .ok (.iload_n 2, 1) := by decide +kernel
theorem dX4_isDraftGood_35 : decode cX4_isDraftGood 35 = .ok (.aload_n 1, 1) := by decide +kernel
theorem dX4_isDraftGood_36 : decode cX4_isDraftGood 36 = .ok (.invokevirtual 63, 3) := by decide +kernel
theorem dX4_isDraftGood_39 : decode cX4_isDraftGood 39 = .ok (.if_icmp .ge 30, 3) := by decide +kernel
theorem dX4_isDraftGood_42 : decode cX4_isDraftGood 42 = .ok (.aload_n 1, 1) := by decide +kernel
theorem dX4_isDraftGood_43 : decode cX4_isDraftGood 43 = .ok (.iload_n 2, 1) := by decide +kernel
theorem dX4_isDraftGood_44 : decode cX4_isDraftGood 44 = .ok (.invokevirtual 68, 3) := by decide +kernel
theorem dX4_isDraftGood_47 : decode cX4_isDraftGood 47 = .ok (.aload_n 0, 1) := by decide +kernel
theorem dX4_isDraftGood_48 : decode cX4_isDraftGood 48 = .ok (.getfield 20, 3) := by decide +kernel
theorem dX4_isDraftGood_51 : decode cX4_isDraftGood 51 = .ok (.iload_n 2, 1) := by decide +kernel
theorem dX4_isDraftGood_52 : decode cX4_isDraftGood 52 = .ok (.iconst 1, 1) := by decide +kernel
theorem dX4_isDraftGood_53 : decode cX4_isDraftGood 53 = .ok (.iadd, 1) := by decide +kernel
theorem dX4_isDraftGood_54 : decode cX4_isDraftGood 54 = .ok (.iaload, 1) := by decide +kernel
theorem dX4_isDraftGood_55 : decode cX4_isDraftGood 55 = .ok (.invokestatic 72, 3) := by decide +kernel
theorem dX4_isDraftGood_58 : decode cX4_isDraftGood 58 = .ok (.ifCond .ne 5, 3) := by decide +kernel
theorem dX4_isDraftGood_61 : decode cX4_isDraftGood 61 = .ok (.iconst 0, 1) := by decide +kernel
theorem dX4_isDraftGood_62 : decode cX4_isDraftGood 62 = .ok (.ireturn, 1) := by decide +kernel
theorem dX4_isDraftGood_63 : decode cX4_isDraftGood 63 = .ok (.iinc 2 1, 3) := by decide +kernel
theorem dX4_isDraftGood_66 : decode cX4_isDraftGood 66 = .ok (.goto (-32), 3) := by decide +kernel
theorem dX4_isDraftGood_69 : decode cX4_isDraftGood 69 = .ok (.iconst 1, 1) := by decide +kernel
theorem dX4_isDraftGood_70 : decode cX4_isDraftGood 70 = .ok (.ireturn, 1) := by decide +kernel
set_option maxRecDepth 20000 in
theorem ggX4_copyDraft_X4_formOf : GoodIn wsX4_copyDraft wsX4_formOf := goodIn_r _ [5] (by decide +kernel) (by decide +kernel)
set_option maxRecDepth 20000 in
theorem gX4_copyDraft_X4_formOf : GoodIn wsX4_copyDraft (va_wsS RX4 59 yX4_formOf wsX4_formOf) := goodIn_app (goodIn_of _ (by decide +kernel)) ggX4_copyDraft_X4_formOf
set_option maxRecDepth 20000 in
theorem ggX4_copyDraft_J0_length_8abf5 : GoodIn wsX4_copyDraft wsJ0_length_8abf5 := goodIn_r _ [10, 11, 12, 13, 14, 9, 15, 16, 17] (by decide +kernel) (by decide +kernel)
set_option maxRecDepth 20000 in
theorem gX4_copyDraft_J0_length_8abf5 : GoodIn wsX4_copyDraft (wsV RX4 63 RJ0 yJ0_length_8abf5 wsJ0_length_8abf5) := goodIn_app (goodIn_of _ (by decide +kernel)) ggX4_copyDraft_J0_length_8abf5
theorem dX4_copyDraft_0 : decode cX4_copyDraft 0 = .ok (.aload_n 0, 1) := by decide +kernel
theorem dX4_copyDraft_1 : decode cX4_copyDraft 1 = .ok (.getfield 20, 3) := by decide +kernel
theorem dX4_copyDraft_4 : decode cX4_copyDraft 4 = .ok (.iconst 0, 1) := by decide +kernel
theorem dX4_copyDraft_5 : decode cX4_copyDraft 5 = .ok (.iaload, 1) := by decide +kernel
theorem dX4_copyDraft_6 : decode cX4_copyDraft 6 = .ok (.invokestatic 59, 3) := by decide +kernel
theorem dX4_copyDraft_9 : decode cX4_copyDraft 9 = .ok (.invokevirtual 63, 3) := by decide +kernel
theorem dX4_copyDraft_12 : decode cX4_copyDraft 12 = .ok (.iconst 1, 1) := by decide +kernel
theorem dX4_copyDraft_13 : decode cX4_copyDraft 13 = .ok (.iadd, 1) := by decide +kernel
theorem dX4_copyDraft_14 : decode cX4_copyDraft 14 = .ok (.istore_n 2, 1) := by decide +kernel
theorem dX4_copyDraft_15 : decode cX4_copyDraft 15 = .ok (.iconst 0, 1) := by decide +kernel
theorem dX4_copyDraft_16 : decode cX4_copyDraft 16 = .ok (.istore_n 3, 1) := by decide +kernel
theorem dX4_copyDraft_17 : decode cX4_copyDraft 17 = .ok (.iload_n 3, 1) := by decide +kernel
theorem dX4_copyDraft_18 : decode cX4_copyDraft 18 = .ok (.bipush 6, 2) := by decide +kernel
theorem dX4_copyDraft_20 : decode cX4_copyDraft 20 = .ok (.if_icmp .ge 27, 3) := by decide +kernel
theorem dX4_copyDraft_23 : decode cX4_copyDraft 23 = .ok (.aload_n 1, 1) := by decide +kernel
theorem dX4_copyDraft_24 : decode cX4_copyDraft 24 = .ok (.iload_n 3, 1) := by decide +kernel
theorem dX4_copyDraft_25 : decode cX4_copyDraft 25 = .ok (.iload_n 3, 1) := by decide +kernel
theorem dX4_copyDraft_26 : decode cX4_copyDraft 26 = .ok (.iload_n 2, 1) := by decide +kernel
theorem dX4_copyDraft_27 : decode cX4_copyDraft 27 = .ok (.if_icmp .ge 12, 3) := by decide +kernel
theorem dX4_copyDraft_30 : decode cX4_copyDraft 30 = .ok (.aload_n 0, 1) := by decide +kernel
theorem dX4_copyDraft_31 : decode cX4_copyDraft 31 = .ok (.getfield 20, 3) := by decide +kernel
theorem dX4_copyDraft_34 : decode cX4_copyDraft 34 = .ok (.iload_n 3, 1) := by decide +kernel
theorem dX4_copyDraft_35 : decode cX4_copyDraft 35 = .ok (.iaload, 1) := by decide +kernel
theorem dX4_copyDraft_36 : decode cX4_copyDraft 36 = .ok (.goto 4, 3) := by decide +kernel
theorem dX4_copyDraft_39 : decode cX4_copyDraft 39 = .ok (.iconst 0, 1) := by decide +kernel
theorem dX4_copyDraft_40 : decode cX4_copyDraft 40 = .ok (.iastore, 1) := by decide +kernel
theorem dX4_copyDraft_41 : decode cX4_copyDraft 41 = .ok (.iinc 3 1, 3) := by decide +kernel
theorem dX4_copyDraft_44 : decode cX4_copyDraft 44 = .ok (.goto (-27), 3) := by decide +kernel
theorem dX4_copyDraft_47 : decode cX4_copyDraft 47 = .ok (.return_, 1) := by decide +kernel
theorem dX4_formOf_0 : decode cX4_formOf 0 = .ok (.iload_n 0, 1) := by decide +kernel
theorem dX4_formOf_1 : decode cX4_formOf 1 = .ok (.tableswitch 73 0 9 #[55, 58, 61, 61, 55, 61, 64, 67, 70, 70], 55) := by decide +kernel
theorem dX4_formOf_56 : decode cX4_formOf 56 = .ok (.ldc 76, 2) := by decide +kernel
theorem dX4_formOf_58 : decode cX4_formOf 58 = .ok (.areturn, 1) := by decide +kernel
theorem dX4_formOf_59 : decode cX4_formOf 59 = .ok (.ldc 78, 2) := by decide +kernel
theorem dX4_formOf_61 : decode cX4_formOf 61 = .ok (.areturn, 1) := by decide +kernel
theorem dX4_formOf_62 : decode cX4_formOf 62 = .ok (.ldc 80, 2) := by decide +kernel
theorem dX4_formOf_64 : decode cX4_formOf 64 = .ok (.areturn, 1) := by decide +kernel
theorem dX4_formOf_65 : decode cX4_formOf 65 = .ok (.ldc 82, 2) := by decide +kernel
theorem dX4_formOf_67 : decode cX4_formOf 67 = .ok (.areturn, 1) := by decide +kernel
theorem dX4_formOf_68 : decode cX4_formOf 68 = .ok (.ldc 84, 2) := by decide +kernel
theorem dX4_formOf_70 : decode cX4_formOf 70 = .ok (.areturn, 1) := by decide +kernel
theorem dX4_formOf_71 : decode cX4_formOf 71 = .ok (.ldc 86, 2) := by decide +kernel
theorem dX4_formOf_73 : decode cX4_formOf 73 = .ok (.areturn, 1) := by decide +kernel
theorem dX4_formOf_74 : decode cX4_formOf 74 = .ok (.ldc 88, 2) := by decide +kernel
theorem dX4_formOf_76 : decode cX4_formOf 76 = .ok (.areturn, 1) := by decide +kernel
theorem dX4_isOfSort_0 : decode cX4_isOfSort 0 = .ok (.iload_n 0, 1) := by decide +kernel
theorem dX4_isOfSort_1 : decode cX4_isOfSort 1 = .ok (.tableswitch 168 108 121 #[117, 168, 152, 168, 168, 168, 71, 137, 168, 168, 168, 168, 86, 101], 71) := by decide +kernel
theorem dX4_isOfSort_72 : decode cX4_isOfSort 72 = .ok (.iload_n 1, 1) := by decide +kernel
theorem dX4_isOfSort_73 : decode cX4_isOfSort 73 = .ok (.ifCond .lt 12, 3) := by decide +kernel
theorem dX4_isOfSort_76 : decode cX4_isOfSort 76 = .ok (.iload_n 1, 1) := by decide +kernel
theorem dX4_isOfSort_77 : decode cX4_isOfSort 77 = .ok (.iconst 4, 1) := by decide +kernel
theorem dX4_isOfSort_78 : decode cX4_isOfSort 78 = .ok (.if_icmp .ge 7, 3) := by decide +kernel
theorem dX4_isOfSort_81 : decode cX4_isOfSort 81 = .ok (.iconst 1, 1) := by decide +kernel
theorem dX4_isOfSort_82 : decode cX4_isOfSort 82 = .ok (.goto 4, 3) := by decide +kernel
theorem dX4_isOfSort_85 : decode cX4_isOfSort 85 = .ok (.iconst 0, 1) := by decide +kernel
theorem dX4_isOfSort_86 : decode cX4_isOfSort 86 = .ok (.ireturn, 1) := by decide +kernel
theorem dX4_isOfSort_87 : decode cX4_isOfSort 87 = .ok (.iload_n 1, 1) := by decide +kernel
theorem dX4_isOfSort_88 : decode cX4_isOfSort 88 = .ok (.ifCond .lt 12, 3) := by decide +kernel
theorem dX4_isOfSort_91 : decode cX4_isOfSort 91 = .ok (.iload_n 1, 1) := by decide +kernel
theorem dX4_isOfSort_92 : decode cX4_isOfSort 92 = .ok (.iconst 3, 1) := by decide +kernel
theorem dX4_isOfSort_93 : decode cX4_isOfSort 93 = .ok (.if_icmp .ge 7, 3) := by decide +kernel
theorem dX4_isOfSort_96 : decode cX4_isOfSort 96 = .ok (.iconst 1, 1) := by decide +kernel
theorem dX4_isOfSort_97 : decode cX4_isOfSort 97 = .ok (.goto 4, 3) := by decide +kernel
theorem dX4_isOfSort_100 : decode cX4_isOfSort 100 = .ok (.iconst 0, 1) := by decide +kernel
theorem dX4_isOfSort_101 : decode cX4_isOfSort 101 = .ok (.ireturn, 1) := by decide +kernel
theorem dX4_isOfSort_102 : decode cX4_isOfSort 102 = .ok (.iload_n 1, 1) := by decide +kernel
theorem dX4_isOfSort_103 : decode cX4_isOfSort 103 = .ok (.iconst (-1), 1) := by decide +kernel
theorem dX4_isOfSort_104 : decode cX4_isOfSort 104 = .ok (.if_icmp .lt 12, 3) := by decide +kernel
theorem dX4_isOfSort_107 : decode cX4_isOfSort 107 = .ok (.iload_n 1, 1) := by decide +kernel
theorem dX4_isOfSort_108 : decode cX4_isOfSort 108 = .ok (.iconst 4, 1) := by decide +kernel
theorem dX4_isOfSort_109 : decode cX4_isOfSort 109 = .ok (.if_icmp .ge 7, 3) := by decide +kernel
theorem dX4_isOfSort_112 : decode cX4_isOfSort 112 = .ok (.iconst 1, 1) := by decide +kernel
theorem dX4_isOfSort_113 : decode cX4_isOfSort 113 = .ok (.goto 4, 3) := by decide +kernel
theorem dX4_isOfSort_116 : decode cX4_isOfSort 116 = .ok (.iconst 0, 1) := by decide +kernel
theorem dX4_isOfSort_117 : decode cX4_isOfSort 117 = .ok (.ireturn, 1) := by decide +kernel
theorem dX4_isOfSort_118 : decode cX4_isOfSort 118 = .ok (.iload_n 1, 1) := by decide +kernel
theorem dX4_isOfSort_119 : decode cX4_isOfSort 119 = .ok (.ifCond .eq 13, 3) := by decide +kernel
theorem dX4_isOfSort_122 : decode cX4_isOfSort 122 = .ok (.iload_n 1, 1) := by decide +kernel
theorem dX4_isOfSort_123 : decode cX4_isOfSort 123 = .ok (.iconst 1, 1) := by decide +kernel
theorem dX4_isOfSort_124 : decode cX4_isOfSort 124 = .ok (.if_icmp .eq 8, 3) := by decide +kernel
theorem dX4_isOfSort_127 : decode cX4_isOfSort 127 = .ok (.iload_n 1, 1) := by decide +kernel
theorem dX4_isOfSort_128 : decode cX4_isOfSort 128 = .ok (.iconst 3, 1) := by decide +kernel
theorem dX4_isOfSort_129 : decode cX4_isOfSort 129 = .ok (.if_icmp .ne 7, 3) := by decide +kernel
theorem dX4_isOfSort_132 : decode cX4_isOfSort 132 = .ok (.iconst 1, 1) := by decide +kernel
theorem dX4_isOfSort_133 : decode cX4_isOfSort 133 = .ok (.goto 4, 3) := by decide +kernel
theorem dX4_isOfSort_136 : decode cX4_isOfSort 136 = .ok (.iconst 0, 1) := by decide +kernel
theorem dX4_isOfSort_137 : decode cX4_isOfSort 137 = .ok (.ireturn, 1) := by decide +kernel
theorem dX4_isOfSort_138 : decode cX4_isOfSort 138 = .ok (.iload_n 1, 1) := by decide +kernel
theorem dX4_isOfSort_139 : decode cX4_isOfSort 139 = .ok (.ifCond .eq 8, 3) := by decide +kernel
theorem dX4_isOfSort_142 : decode cX4_isOfSort 142 = .ok (.iload_n 1, 1) := by decide +kernel
theorem dX4_isOfSort_143 : decode cX4_isOfSort 143 = .ok (.iconst 2, 1) := by decide +kernel
theorem dX4_isOfSort_144 : decode cX4_isOfSort 144 = .ok (.if_icmp .ne 7, 3) := by decide +kernel
theorem dX4_isOfSort_147 : decode cX4_isOfSort 147 = .ok (.iconst 1, 1) := by decide +kernel
theorem dX4_isOfSort_148 : decode cX4_isOfSort 148 = .ok (.goto 4, 3) := by decide +kernel
theorem dX4_isOfSort_151 : decode cX4_isOfSort 151 = .ok (.iconst 0, 1) := by decide +kernel
theorem dX4_isOfSort_152 : decode cX4_isOfSort 152 = .ok (.ireturn, 1) := by decide +kernel
theorem dX4_isOfSort_153 : decode cX4_isOfSort 153 = .ok (.iload_n 1, 1) := by decide +kernel
theorem dX4_isOfSort_154 : decode cX4_isOfSort 154 = .ok (.iconst 1, 1) := by decide +kernel
theorem dX4_isOfSort_155 : decode cX4_isOfSort 155 = .ok (.if_icmp .lt 12, 3) := by decide +kernel
theorem dX4_isOfSort_158 : decode cX4_isOfSort 158 = .ok (.iload_n 1, 1) := by decide +kernel
theorem dX4_isOfSort_159 : decode cX4_isOfSort 159 = .ok (.iconst 5, 1) := by decide +kernel
theorem dX4_isOfSort_160 : decode cX4_isOfSort 160 = .ok (.if_icmp .gt 7, 3) := by decide +kernel
theorem dX4_isOfSort_163 : decode cX4_isOfSort 163 = .ok (.iconst 1, 1) := by decide +kernel
theorem dX4_isOfSort_164 : decode cX4_isOfSort 164 = .ok (.goto 4, 3) := by decide +kernel
theorem dX4_isOfSort_167 : decode cX4_isOfSort 167 = .ok (.iconst 0, 1) := by decide +kernel
theorem dX4_isOfSort_168 : decode cX4_isOfSort 168 = .ok (.ireturn, 1) := by decide +kernel
theorem dX4_isOfSort_169 : decode cX4_isOfSort 169 = .ok (.iload_n 1, 1) := by decide +kernel
theorem dX4_isOfSort_170 : decode cX4_isOfSort 170 = .ok (.ifCond .lt 12, 3) := by decide +kernel
theorem dX4_isOfSort_173 : decode cX4_isOfSort 173 = .ok (.iload_n 1, 1) := by decide +kernel
theorem dX4_isOfSort_174 : decode cX4_isOfSort 174 = .ok (.iconst 3, 1) := by decide +kernel
theorem dX4_isOfSort_175 : decode cX4_isOfSort 175 = .ok (.if_icmp .gt 7, 3) := by decide +kernel
theorem dX4_isOfSort_178 : decode cX4_isOfSort 178 = .ok (.iconst 1, 1) := by decide +kernel
theorem dX4_isOfSort_179 : decode cX4_isOfSort 179 = .ok (.goto 4, 3) := by decide +kernel
theorem dX4_isOfSort_182 : decode cX4_isOfSort 182 = .ok (.iconst 0, 1) := by decide +kernel
theorem dX4_isOfSort_183 : decode cX4_isOfSort 183 = .ok (.ireturn, 1) := by decide +kernel
set_option maxRecDepth 20000 in
theorem ggX5_init_X0_init : GoodIn wsX5_init wsX0_init := goodIn_r _ [14, 15, 2, 3] (by decide +kernel) (by decide +kernel)
set_option maxRecDepth 20000 in
theorem gX5_init_X0_init_n25 : GoodIn wsX5_init (wsX0_init) := ggX5_init_X0_init
theorem dX5_init_0 : decode cX5_init 0 = .ok (.aload_n 0, 1) := by decide +kernel
theorem dX5_init_1 : decode cX5_init 1 = .ok (.invokespecial 3, 3) := by decide +kernel
theorem dX5_init_4 : decode cX5_init 4 = .ok (.aload_n 0, 1) := by decide +kernel
theorem dX5_init_5 : decode cX5_init 5 = .ok (.aload_n 1, 1) := by decide +kernel
theorem dX5_init_6 : decode cX5_init 6 = .ok (.putfield 9, 3) := by decide +kernel
theorem dX5_init_9 : decode cX5_init 9 = .ok (.aload_n 0, 1) := by decide +kernel
theorem dX5_init_10 : decode cX5_init 10 = .ok (.aload_n 2, 1) := by decide +kernel
theorem dX5_init_11 : decode cX5_init 11 = .ok (.putfield 15, 3) := by decide +kernel
theorem dX5_init_14 : decode cX5_init 14 = .ok (.aload_n 0, 1) := by decide +kernel
theorem dX5_init_15 : decode cX5_init 15 = .ok (.bipush 6, 2) := by decide +kernel
theorem dX5_init_17 : decode cX5_init 17 = .ok (.anewarray 19, 3) := by decide +kernel
theorem dX5_init_20 : decode cX5_init 20 = .ok (.putfield 21, 3) := by decide +kernel
theorem dX5_init_23 : decode cX5_init 23 = .ok (.iconst 0, 1) := by decide +kernel
theorem dX5_init_24 : decode cX5_init 24 = .ok (.istore_n 3, 1) := by decide +kernel
theorem dX5_init_25 : decode cX5_init 25 = .ok (.iload_n 3, 1) := by decide +kernel
theorem dX5_init_26 : decode cX5_init 26 = .ok (.bipush 6, 2) := by decide +kernel
theorem dX5_init_28 : decode cX5_init 28 = .ok (.if_icmp .ge 22, 3) := by decide +kernel
theorem dX5_init_31 : decode cX5_init 31 = .ok (.aload_n 0, 1) := by decide +kernel
theorem dX5_init_32 : decode cX5_init 32 = .ok (.getfield 21, 3) := by decide +kernel
theorem dX5_init_35 : decode cX5_init 35 = .ok (.iload_n 3, 1) := by decide +kernel
theorem dX5_init_36 : decode cX5_init 36 = .ok (.new 19, 3) := by decide +kernel
theorem dX5_init_39 : decode cX5_init 39 = .ok (.dup, 1) := by decide +kernel
theorem dX5_init_40 : decode cX5_init 40 = .ok (.invokespecial 25, 3) := by decide +kernel
theorem dX5_init_43 : decode cX5_init 43 = .ok (.aastore, 1) := by decide +kernel
theorem dX5_init_44 : decode cX5_init 44 = .ok (.iinc 3 1, 3) := by decide +kernel
theorem dX5_init_47 : decode cX5_init 47 = .ok (.goto (-22), 3) := by decide +kernel
theorem dX5_init_50 : decode cX5_init 50 = .ok (.aload_n 0, 1) := by decide +kernel
theorem dX5_init_51 : decode cX5_init 51 = .ok (.bipush 16, 2) := by decide +kernel
theorem dX5_init_53 : decode cX5_init 53 = .ok (.newarray .int, 2) := by decide +kernel
theorem dX5_init_55 : decode cX5_init 55 = .ok (.putfield 26, 3) := by decide +kernel
theorem dX5_init_58 : decode cX5_init 58 = .ok (.aload_n 0, 1) := by decide +kernel
theorem dX5_init_59 : decode cX5_init 59 = .ok (.bipush 16, 2) := by decide +kernel
theorem dX5_init_61 : decode cX5_init 61 = .ok (.newarray .int, 2) := by decide +kernel
theorem dX5_init_63 : decode cX5_init 63 = .ok (.putfield 30, 3) := by decide +kernel
theorem dX5_init_66 : decode cX5_init 66 = .ok (.return_, 1) := by decide +kernel
theorem dX5_size_0 : decode cX5_size 0 = .ok (.aload_n 0, 1) := by decide +kernel
theorem dX5_size_1 : decode cX5_size 1 = .ok (.getfield 33, 3) := by decide +kernel
theorem dX5_size_4 : decode cX5_size 4 = .ok (.ireturn, 1) := by decide +kernel
theorem dX5_accessAt_0 : decode cX5_accessAt 0 = .ok (.aload_n 0, 1) := by decide +kernel
theorem dX5_accessAt_1 : decode cX5_accessAt 1 = .ok (.getfield 21, 3) := by decide +kernel
theorem dX5_accessAt_4 : decode cX5_accessAt 4 = .ok (.iload_n 1, 1) := by decide +kernel
theorem dX5_accessAt_5 : decode cX5_accessAt 5 = .ok (.aaload, 1) := by decide +kernel
theorem dX5_accessAt_6 : decode cX5_accessAt 6 = .ok (.areturn, 1) := by decide +kernel
theorem dX5_registersPart_0 : decode cX5_registersPart 0 = .ok (.lconst 0, 1) := by decide +kernel
theorem dX5_registersPart_1 : decode cX5_registersPart 1 = .ok (.lstore_n 1, 1) := by decide +kernel
theorem dX5_registersPart_2 : decode cX5_registersPart 2 = .ok (.bipush 15, 2) := by decide +kernel
theorem dX5_registersPart_4 : decode cX5_registersPart 4 = .ok (.istore_n 3, 1) := by decide +kernel
theorem dX5_registersPart_5 : decode cX5_registersPart 5 = .ok (.iload_n 3, 1) := by decide +kernel
theorem dX5_registersPart_6 : decode cX5_registersPart 6 = .ok (.ifCond .lt 23, 3) := by decide +kernel
theorem dX5_registersPart_9 : decode cX5_registersPart 9 = .ok (.lload_n 1, 1) := by decide +kernel
theorem dX5_registersPart_10 : decode cX5_registersPart 10 = .ok (.ldc2_w 37, 3) := by decide +kernel
theorem dX5_registersPart_13 : decode cX5_registersPart 13 = .ok (.lmul, 1) := by decide +kernel
theorem dX5_registersPart_14 : decode cX5_registersPart 14 = .ok (.aload_n 0, 1) := by decide +kernel
theorem dX5_registersPart_15 : decode cX5_registersPart 15 = .ok (.getfield 26, 3) := by decide +kernel
theorem dX5_registersPart_18 : decode cX5_registersPart 18 = .ok (.iload_n 3, 1) := by decide +kernel
theorem dX5_registersPart_19 : decode cX5_registersPart 19 = .ok (.iaload, 1) := by decide +kernel
theorem dX5_registersPart_20 : decode cX5_registersPart 20 = .ok (.i2l, 1) := by decide +kernel
theorem dX5_registersPart_21 : decode cX5_registersPart 21 = .ok (.ladd, 1) := by decide +kernel
theorem dX5_registersPart_22 : decode cX5_registersPart 22 = .ok (.lstore_n 1, 1) := by decide +kernel
theorem dX5_registersPart_23 : decode cX5_registersPart 23 = .ok (.iinc 3 (-1), 3) := by decide +kernel
theorem dX5_registersPart_26 : decode cX5_registersPart 26 = .ok (.goto (-21), 3) := by decide +kernel
theorem dX5_registersPart_29 : decode cX5_registersPart 29 = .ok (.lload_n 1, 1) := by decide +kernel
theorem dX5_registersPart_30 : decode cX5_registersPart 30 = .ok (.lreturn, 1) := by decide +kernel
theorem dX5_locationsPart_0 : decode cX5_locationsPart 0 = .ok (.lconst 0, 1) := by decide +kernel
theorem dX5_locationsPart_1 : decode cX5_locationsPart 1 = .ok (.lstore_n 2, 1) := by decide +kernel
theorem dX5_locationsPart_2 : decode cX5_locationsPart 2 = .ok (.iconst 2, 1) := by decide +kernel
theorem dX5_locationsPart_3 : decode cX5_locationsPart 3 = .ok (.istore 4, 2) := by decide +kernel
theorem dX5_locationsPart_5 : decode cX5_locationsPart 5 = .ok (.iload 4, 2) := by decide +kernel
theorem dX5_locationsPart_7 : decode cX5_locationsPart 7 = .ok (.ifCond .lt 41, 3) := by decide +kernel
theorem dX5_locationsPart_10 : decode cX5_locationsPart 10 = .ok (.lload_n 2, 1) := by decide +kernel
theorem dX5_locationsPart_11 : decode cX5_locationsPart 11 = .ok (.ldc2_w 37, 3) := by decide +kernel
theorem dX5_locationsPart_14 : decode cX5_locationsPart 14 = .ok (.lmul, 1) := by decide +kernel
theorem dX5_locationsPart_15 : decode cX5_locationsPart 15 = .ok (.aload_n 1, 1) := by decide +kernel
theorem dX5_locationsPart_16 : decode cX5_locationsPart 16 = .ok (.iload 4, 2) := by decide +kernel
theorem dX5_locationsPart_18 : decode cX5_locationsPart 18 = .ok (.iaload, 1) := by decide +kernel
theorem dX5_locationsPart_19 : decode cX5_locationsPart 19 = .ok (.iconst (-1), 1) := by decide +kernel
theorem dX5_locationsPart_20 : decode cX5_locationsPart 20 = .ok (.if_icmp .ne 7, 3) := by decide +kernel
theorem dX5_locationsPart_23 : decode cX5_locationsPart 23 = .ok (.iconst 0, 1) := by decide +kernel
theorem dX5_locationsPart_24 : decode cX5_locationsPart 24 = .ok (.goto 15, 3) := by decide +kernel
theorem dX5_locationsPart_27 : decode cX5_locationsPart 27 = .ok (.aload_n 0, 1) := by decide +kernel
theorem dX5_locationsPart_28 : decode cX5_locationsPart 28 = .ok (.getfield 21, 3) := by decide +kernel
theorem dX5_locationsPart_31 : decode cX5_locationsPart 31 = .ok (.aload_n 1, 1) := by decide +kernel
theorem dX5_locationsPart_32 : decode cX5_locationsPart 32 = .ok (.iload 4, 2) := by decide +kernel
theorem dX5_locationsPart_34 : decode cX5_locationsPart 34 = .ok (.iaload, 1) := by decide +kernel
theorem dX5_locationsPart_35 : decode cX5_locationsPart 35 = .ok (.aaload, 1) := by decide +kernel
theorem dX5_locationsPart_36 : decode cX5_locationsPart 36 = .ok (.getfield 39, 3) := by decide +kernel
theorem dX5_locationsPart_39 : decode cX5_locationsPart 39 = .ok (.i2l, 1) := by decide +kernel
theorem dX5_locationsPart_40 : decode cX5_locationsPart 40 = .ok (.ladd, 1) := by decide +kernel
theorem dX5_locationsPart_41 : decode cX5_locationsPart 41 = .ok (.lstore_n 2, 1) := by decide +kernel
theorem dX5_locationsPart_42 : decode cX5_locationsPart 42 = .ok (.iinc 4 (-1), 3) := by decide +kernel
theorem dX5_locationsPart_45 : decode cX5_locationsPart 45 = .ok (.goto (-40), 3) := by decide +kernel
theorem dX5_locationsPart_48 : decode cX5_locationsPart 48 = .ok (.lload_n 2, 1) := by decide +kernel
theorem dX5_locationsPart_49 : decode cX5_locationsPart 49 = .ok (.bipush 32, 2) := by decide +kernel
theorem dX5_locationsPart_51 : decode cX5_locationsPart 51 = .ok (.lshl, 1) := by decide +kernel
theorem dX5_locationsPart_52 : decode cX5_locationsPart 52 = .ok (.lreturn, 1) := by decide +kernel
set_option maxRecDepth 20000 in
theorem ggX5_walk_J7_fill_53178 : GoodIn wsX5_walk wsJ7_fill_53178 := goodIn_r _ [8] (by decide +kernel) (by decide +kernel)
set_option maxRecDepth 20000 in
theorem gX5_walk_J7_fill_53178 : GoodIn wsX5_walk (va_wsS RX5 45 yJ7_fill_53178 wsJ7_fill_53178) := goodIn_app (goodIn_of _ (by decide +kernel)) ggX5_walk_J7_fill_53178
set_option maxRecDepth 20000 in
theorem ggX5_walk_X5_walkHart : GoodIn wsX5_walk wsX5_walkHart := goodIn_r _ [13, 14, 2, 15, 16, 17, 18, 19, 20, 21, 22, 23, 24, 25, 26, 27, 28, 29, 30, 31, 32, 33, 34, 35, 12, 36, 37, 38, 39, 40, 4, 41, 42, 43, 44, 3, 45, 46, 47, 48, 49, 50, 51, 52, 53, 54, 55, 56, 57, 58, 59, 60, 61, 62, 63, 64, 65, 66, 67, 68, 69, 70, 71, 72, 73, 74, 75, 76, 77, 78, 79, 80, 81, 82, 83, 84, 85, 86, 87, 88, 89, 90, 91, 92, 93, 94, 95, 96, 1, 97, 98, 99, 100, 101, 102, 103, 104, 105, 106, 107, 108, 109, 110, 111, 112, 113, 114, 115, 116, 117, 118, 119, 120, 121, 122, 123, 124, 125, 126, 127, 128, 129, 130, 131, 132, 133] (by decide +kernel) (by decide +kernel)
set_option maxRecDepth 20000 in
theorem gX5_walk_X5_walkHart : GoodIn wsX5_walk (wsV RX5 51 RX5 yX5_walkHart wsX5_walkHart) := goodIn_app (goodIn_of _ (by decide +kernel)) ggX5_walk_X5_walkHart
theorem dX5_walk_0 : decode cX5_walk 0 = .ok (.aload_n 0, 1) := by decide +kernel
theorem dX5_walk_1 : decode cX5_walk 1 = .ok (.iload_n 1, 1) := by decide +kernel
theorem dX5_walk_2 : decode cX5_walk 2 = .ok (.putfield 42, 3) := by decide +kernel
theorem dX5_walk_5 : decode cX5_walk 5 = .ok (.aload_n 0, 1) := by decide +kernel
theorem dX5_walk_6 : decode cX5_walk 6 = .ok (.iconst 0, 1) := by decide +kernel
theorem dX5_walk_7 : decode cX5_walk 7 = .ok (.putfield 33, 3) := by decide +kernel
theorem dX5_walk_10 : decode cX5_walk 10 = .ok (.aload_n 0, 1) := by decide +kernel
theorem dX5_walk_11 : decode cX5_walk 11 = .ok (.getfield 26, 3) := by decide +kernel
theorem dX5_walk_14 : decode cX5_walk 14 = .ok (.iconst 0, 1) := by decide +kernel
theorem dX5_walk_15 : decode cX5_walk 15 = .ok (.invokestatic 45, 3) := by decide +kernel
theorem dX5_walk_18 : decode cX5_walk 18 = .ok (.aload_n 0, 1) := by decide +kernel
theorem dX5_walk_19 : decode cX5_walk 19 = .ok (.getfield 30, 3) := by decide +kernel
theorem dX5_walk_22 : decode cX5_walk 22 = .ok (.iconst 0, 1) := by decide +kernel
theorem dX5_walk_23 : decode cX5_walk 23 = .ok (.invokestatic 45, 3) := by decide +kernel
theorem dX5_walk_26 : decode cX5_walk 26 = .ok (.iconst 0, 1) := by decide +kernel
theorem dX5_walk_27 : decode cX5_walk 27 = .ok (.istore_n 2, 1) := by decide +kernel
theorem dX5_walk_28 : decode cX5_walk 28 = .ok (.iload_n 2, 1) := by decide +kernel
theorem dX5_walk_29 : decode cX5_walk 29 = .ok (.iconst 4, 1) := by decide +kernel
theorem dX5_walk_30 : decode cX5_walk 30 = .ok (.if_icmp .ge 14, 3) := by decide +kernel
theorem dX5_walk_33 : decode cX5_walk 33 = .ok (.aload_n 0, 1) := by decide +kernel
theorem dX5_walk_34 : decode cX5_walk 34 = .ok (.iload_n 2, 1) := by decide +kernel
theorem dX5_walk_35 : decode cX5_walk 35 = .ok (.invokevirtual 51, 3) := by decide +kernel
theorem dX5_walk_38 : decode cX5_walk 38 = .ok (.iinc 2 1, 3) := by decide +kernel
theorem dX5_walk_41 : decode cX5_walk 41 = .ok (.goto (-13), 3) := by decide +kernel
theorem dX5_walk_44 : decode cX5_walk 44 = .ok (.return_, 1) := by decide +kernel
set_option maxRecDepth 20000 in
theorem ggX5_isPlausible_X5_isWrittenFor : GoodIn wsX5_isPlausible wsX5_isWrittenFor := goodIn_r _ [7, 2, 1, 8, 9, 10, 11, 12, 13, 14, 15, 16, 17, 18, 19, 20, 21, 22, 23, 24, 25, 26, 27, 28, 29, 30, 31, 32, 33, 34, 35] (by decide +kernel) (by decide +kernel)
set_option maxRecDepth 20000 in
theorem gX5_isPlausible_X5_isWrittenFor : GoodIn wsX5_isPlausible (wsV RX5 62 RX5 yX5_isWrittenFor wsX5_isWrittenFor) := goodIn_app (goodIn_of _ (by decide +kernel)) ggX5_isPlausible_X5_isWrittenFor
theorem dX5_isPlausible_0 : decode cX5_isPlausible 0 = .ok (.iconst 0, 1) := by decide +kernel
theorem dX5_isPlausible_1 : decode cX5_isPlausible 1 = .ok (.istore_n 1, 1) := by decide +kernel
theorem dX5_isPlausible_2 : decode cX5_isPlausible 2 = .ok (.iload_n 1, 1) := by decide +kernel
theorem dX5_isPlausible_3 : decode cX5_isPlausible 3 = .ok (.aload_n 0, 1) := by decide +kernel
theorem dX5_isPlausible_4 : decode cX5_isPlausible 4 = .ok (.getfield 33, 3) := by decide +kernel
theorem dX5_isPlausible_7 : decode cX5_isPlausible 7 = .ok (.if_icmp .ge 43, 3) := by decide +kernel
theorem dX5_isPlausible_10 : decode cX5_isPlausible 10 = .ok (.aload_n 0, 1) := by decide +kernel
theorem dX5_isPlausible_11 : decode cX5_isPlausible 11 = .ok (.getfield 21, 3) := by decide +kernel
theorem dX5_isPlausible_14 : decode cX5_isPlausible 14 = .ok (.iload_n 1, 1) := by decide +kernel
theorem dX5_isPlausible_15 : decode cX5_isPlausible 15 = .ok (.aaload, 1) := by decide +kernel
theorem dX5_isPlausible_16 : decode cX5_isPlausible 16 = .ok (.getfield 55, 3) := by decide +kernel
theorem dX5_isPlausible_19 : decode cX5_isPlausible 19 = .ok (.ifCond .eq 25, 3) := by decide +kernel
theorem dX5_isPlausible_22 : decode cX5_isPlausible 22 = .ok (.aload_n 0, 1) := by decide +kernel
theorem dX5_isPlausible_23 : decode cX5_isPlausible 23 = .ok (.getfield 21, 3) := by decide +kernel
theorem dX5_isPlausible_26 : decode cX5_isPlausible 26 = .ok (.iload_n 1, 1) := by decide +kernel
theorem dX5_isPlausible_27 : decode cX5_isPlausible 27 = .ok (.aaload, 1) := by decide +kernel
theorem dX5_isPlausible_28 : decode cX5_isPlausible 28 = .ok (.getfield 59, 3) := by decide +kernel
theorem dX5_isPlausible_31 : decode cX5_isPlausible 31 = .ok (.ifCond .eq 13, 3) := by decide +kernel
theorem dX5_isPlausible_34 : decode cX5_isPlausible 34 = .ok (.aload_n 0, 1) := by decide +kernel
theorem dX5_isPlausible_35 : decode cX5_isPlausible 35 = .ok (.iload_n 1, 1) := by decide +kernel
theorem dX5_isPlausible_36 : decode cX5_isPlausible 36 = .ok (.invokevirtual 62, 3) := by decide +kernel
theorem dX5_isPlausible_39 : decode cX5_isPlausible 39 = .ok (.ifCond .ne 5, 3) := by decide +kernel
theorem dX5_isPlausible_42 : decode cX5_isPlausible 42 = .ok (.iconst 0, 1) := by decide +kernel
theorem dX5_isPlausible_43 : decode cX5_isPlausible 43 = .ok (.ireturn, 1) := by decide +kernel
theorem dX5_isPlausible_44 : decode cX5_isPlausible 44 = .ok (.iinc 1 1, 3) := by decide +kernel
theorem dX5_isPlausible_47 : decode cX5_isPlausible 47 = .ok (.goto (-45), 3) := by decide +kernel
theorem dX5_isPlausible_50 : decode cX5_isPlausible 50 = .ok (.iconst 1, 1) := by decide +kernel
theorem dX5_isPlausible_51 : decode cX5_isPlausible 51 = .ok (.ireturn, 1) := by decide +kernel
theorem dX5_isWrittenFor_0 : decode cX5_isWrittenFor 0 = .ok (.aload_n 0, 1) := by decide +kernel
theorem dX5_isWrittenFor_1 : decode cX5_isWrittenFor 1 = .ok (.getfield 21, 3) := by decide +kernel
theorem dX5_isWrittenFor_4 : decode cX5_isWrittenFor 4 = .ok (.iload_n 1, 1) := by decide +kernel
theorem dX5_isWrittenFor_5 : decode cX5_isWrittenFor 5 = .ok (.aaload, 1) := by decide +kernel
theorem dX5_isWrittenFor_6 : decode cX5_isWrittenFor 6 = .ok (.astore_n 2, 1) := by decide +kernel
theorem dX5_isWrittenFor_7 : decode cX5_isWrittenFor 7 = .ok (.iconst 0, 1) := by decide +kernel
theorem dX5_isWrittenFor_8 : decode cX5_isWrittenFor 8 = .ok (.istore_n 3, 1) := by decide +kernel
theorem dX5_isWrittenFor_9 : decode cX5_isWrittenFor 9 = .ok (.iload_n 3, 1) := by decide +kernel
theorem dX5_isWrittenFor_10 : decode cX5_isWrittenFor 10 = .ok (.aload_n 0, 1) := by decide +kernel
theorem dX5_isWrittenFor_11 : decode cX5_isWrittenFor 11 = .ok (.getfield 33, 3) := by decide +kernel
theorem dX5_isWrittenFor_14 : decode cX5_isWrittenFor 14 = .ok (.if_icmp .ge 56, 3) := by decide +kernel
theorem dX5_isWrittenFor_17 : decode cX5_isWrittenFor 17 = .ok (.aload_n 0, 1) := by decide +kernel
theorem dX5_isWrittenFor_18 : decode cX5_isWrittenFor 18 = .ok (.getfield 21, 3) := by decide +kernel
theorem dX5_isWrittenFor_21 : decode cX5_isWrittenFor 21 = .ok (.iload_n 3, 1) := by decide +kernel
theorem dX5_isWrittenFor_22 : decode cX5_isWrittenFor 22 = .ok (.aaload, 1) := by decide +kernel
theorem dX5_isWrittenFor_23 : decode cX5_isWrittenFor 23 = .ok (.astore 4, 2) := by decide +kernel
theorem dX5_isWrittenFor_25 : decode cX5_isWrittenFor 25 = .ok (.iload_n 3, 1) := by decide +kernel
theorem dX5_isWrittenFor_26 : decode cX5_isWrittenFor 26 = .ok (.iload_n 1, 1) := by decide +kernel
theorem dX5_isWrittenFor_27 : decode cX5_isWrittenFor 27 = .ok (.if_icmp .eq 37, 3) := by decide +kernel
theorem dX5_isWrittenFor_30 : decode cX5_isWrittenFor 30 = .ok (.aload 4, 2) := by decide +kernel
theorem dX5_isWrittenFor_32 : decode cX5_isWrittenFor 32 = .ok (.getfield 66, 3) := by decide +kernel
theorem dX5_isWrittenFor_35 : decode cX5_isWrittenFor 35 = .ok (.ifCond .eq 29, 3) := by decide +kernel
theorem dX5_isWrittenFor_38 : decode cX5_isWrittenFor 38 = .ok (.aload 4, 2) := by decide +kernel
theorem dX5_isWrittenFor_40 : decode cX5_isWrittenFor 40 = .ok (.getfield 69, 3) := by decide +kernel
theorem dX5_isWrittenFor_43 : decode cX5_isWrittenFor 43 = .ok (.aload_n 2, 1) := by decide +kernel
theorem dX5_isWrittenFor_44 : decode cX5_isWrittenFor 44 = .ok (.getfield 69, 3) := by decide +kernel
theorem dX5_isWrittenFor_47 : decode cX5_isWrittenFor 47 = .ok (.if_icmp .ne 17, 3) := by decide +kernel
theorem dX5_isWrittenFor_50 : decode cX5_isWrittenFor 50 = .ok (.aload 4, 2) := by decide +kernel
theorem dX5_isWrittenFor_52 : decode cX5_isWrittenFor 52 = .ok (.getfield 39, 3) := by decide +kernel
theorem dX5_isWrittenFor_55 : decode cX5_isWrittenFor 55 = .ok (.aload_n 2, 1) := by decide +kernel
theorem dX5_isWrittenFor_56 : decode cX5_isWrittenFor 56 = .ok (.getfield 59, 3) := by decide +kernel
theorem dX5_isWrittenFor_59 : decode cX5_isWrittenFor 59 = .ok (.if_icmp .ne 5, 3) := by decide +kernel
theorem dX5_isWrittenFor_62 : decode cX5_isWrittenFor 62 = .ok (.iconst 1, 1) := by decide +kernel
theorem dX5_isWrittenFor_63 : decode cX5_isWrittenFor 63 = .ok (.ireturn, 1) := by decide +kernel
theorem dX5_isWrittenFor_64 : decode cX5_isWrittenFor 64 = .ok (.iinc 3 1, 3) := by decide +kernel
theorem dX5_isWrittenFor_67 : decode cX5_isWrittenFor 67 = .ok (.goto (-58), 3) := by decide +kernel
theorem dX5_isWrittenFor_70 : decode cX5_isWrittenFor 70 = .ok (.iconst 0, 1) := by decide +kernel
theorem dX5_isWrittenFor_71 : decode cX5_isWrittenFor 71 = .ok (.ireturn, 1) := by decide +kernel
set_option maxRecDepth 20000 in
theorem ggX5_walkHart_X4_length : GoodIn wsX5_walkHart wsX4_length := goodIn_r _ [14, 15, 103, 104, 105, 106, 107] (by decide +kernel) (by decide +kernel)
set_option maxRecDepth 20000 in
theorem gX5_walkHart_X4_length : GoodIn wsX5_walkHart (wsV RX5 93 RX4 yX4_length wsX4_length) := goodIn_app (goodIn_of _ (by decide +kernel)) ggX5_walkHart_X4_length
set_option maxRecDepth 20000 in
theorem ggX5_walkHart_X4_row : GoodIn wsX5_walkHart wsX4_row := goodIn_r _ [19, 20, 103, 104, 105, 106, 107] (by decide +kernel) (by decide +kernel)
set_option maxRecDepth 20000 in
theorem gX5_walkHart_X4_row : GoodIn wsX5_walkHart (wsV RX5 99 RX4 yX4_row wsX4_row) := goodIn_app (goodIn_of _ (by decide +kernel)) ggX5_walkHart_X4_row
set_option maxRecDepth 20000 in
theorem ggX5_walkHart_X5_leftOut : GoodIn wsX5_walkHart wsX5_leftOut := goodIn_r _ [25, 5, 26, 27, 28, 24, 29, 30, 1, 31, 32, 33, 34, 35, 89, 90, 91, 92, 93, 94, 95, 96, 97, 98, 99, 100, 101, 102] (by decide +kernel) (by decide +kernel)
set_option maxRecDepth 20000 in
theorem gX5_walkHart_X5_leftOut : GoodIn wsX5_walkHart (wsV RX5 103 RX5 yX5_leftOut wsX5_leftOut) := goodIn_app (goodIn_of _ (by decide +kernel)) ggX5_walkHart_X5_leftOut
set_option maxRecDepth 20000 in
theorem ggX5_walkHart_X5_step : GoodIn wsX5_walkHart wsX5_step := goodIn_r _ [39, 4, 40, 41, 42, 24, 43, 3, 2, 44, 7, 8, 45, 46, 47, 48, 35, 1, 30, 31, 32, 33, 34, 26, 27, 28, 29, 49, 50, 51, 52, 53, 54, 55, 56, 57, 58, 59, 60, 61, 62, 63, 64, 65, 66, 67, 68, 69, 70, 6, 71, 72, 73, 74, 75, 76, 77, 78, 79, 80, 81, 82, 83, 84, 85, 86, 87, 5, 88, 89, 90, 91, 92, 93, 94, 95, 96, 97, 98, 99, 100, 101, 102, 108, 109, 110, 111, 112, 113, 114, 115, 116, 117, 118, 119, 120, 121, 122, 123, 124, 125] (by decide +kernel) (by decide +kernel)
set_option maxRecDepth 20000 in
theorem gX5_walkHart_X5_step : GoodIn wsX5_walkHart (wsV RX5 107 RX5 yX5_step wsX5_step) := goodIn_app (goodIn_of _ (by decide +kernel)) ggX5_walkHart_X5_step
theorem dX5_walkHart_0 : decode cX5_walkHart 0 = .ok (.aload_n 0, 1) := by decide +kernel
theorem dX5_walkHart_1 : decode cX5_walkHart 1 = .ok (.iload_n 1, 1) := by decide +kernel
theorem dX5_walkHart_2 : decode cX5_walkHart 2 = .ok (.putfield 72, 3) := by decide +kernel
theorem dX5_walkHart_5 : decode cX5_walkHart 5 = .ok (.aload_n 0, 1) := by decide +kernel
theorem dX5_walkHart_6 : decode cX5_walkHart 6 = .ok (.aload_n 0, 1) := by decide +kernel
theorem dX5_walkHart_7 : decode cX5_walkHart 7 = .ok (.getfield 33, 3) := by decide +kernel
theorem dX5_walkHart_10 : decode cX5_walkHart 10 = .ok (.putfield 75, 3) := by decide +kernel
theorem dX5_walkHart_13 : decode cX5_walkHart 13 = .ok (.aload_n 0, 1) := by decide +kernel
theorem dX5_walkHart_14 : decode cX5_walkHart 14 = .ok (.iconst (-1), 1) := by decide +kernel
theorem dX5_walkHart_15 : decode cX5_walkHart 15 = .ok (.putfield 78, 3) := by decide +kernel
theorem dX5_walkHart_18 : decode cX5_walkHart 18 = .ok (.aload_n 0, 1) := by decide +kernel
theorem dX5_walkHart_19 : decode cX5_walkHart 19 = .ok (.iconst 0, 1) := by decide +kernel
theorem dX5_walkHart_20 : decode cX5_walkHart 20 = .ok (.putfield 81, 3) := by decide +kernel
theorem dX5_walkHart_23 : decode cX5_walkHart 23 = .ok (.aload_n 0, 1) := by decide +kernel
theorem dX5_walkHart_24 : decode cX5_walkHart 24 = .ok (.iconst 0, 1) := by decide +kernel
theorem dX5_walkHart_25 : decode cX5_walkHart 25 = .ok (.putfield 84, 3) := by decide +kernel
theorem dX5_walkHart_28 : decode cX5_walkHart 28 = .ok (.aload_n 0, 1) := by decide +kernel
theorem dX5_walkHart_29 : decode cX5_walkHart 29 = .ok (.iconst 0, 1) := by decide +kernel
theorem dX5_walkHart_30 : decode cX5_walkHart 30 = .ok (.putfield 87, 3) := by decide +kernel
theorem dX5_walkHart_33 : decode cX5_walkHart 33 = .ok (.aload_n 0, 1) := by decide +kernel
theorem dX5_walkHart_34 : decode cX5_walkHart 34 = .ok (.iconst 0, 1) := by decide +kernel
theorem dX5_walkHart_35 : decode cX5_walkHart 35 = .ok (.putfield 90, 3) := by decide +kernel
theorem dX5_walkHart_38 : decode cX5_walkHart 38 = .ok (.aload_n 0, 1) := by decide +kernel
theorem dX5_walkHart_39 : decode cX5_walkHart 39 = .ok (.getfield 9, 3) := by decide +kernel
theorem dX5_walkHart_42 : decode cX5_walkHart 42 = .ok (.aload_n 0, 1) := by decide +kernel
theorem dX5_walkHart_43 : decode cX5_walkHart 43 = .ok (.getfield 72, 3) := by decide +kernel
theorem dX5_walkHart_46 : decode cX5_walkHart 46 = .ok (.invokevirtual 93, 3) := by decide +kernel
theorem dX5_walkHart_49 : decode cX5_walkHart 49 = .ok (.istore_n 2, 1) := by decide +kernel
theorem dX5_walkHart_50 : decode cX5_walkHart 50 = .ok (.iconst 0, 1) := by decide +kernel
theorem dX5_walkHart_51 : decode cX5_walkHart 51 = .ok (.istore_n 3, 1) := by decide +kernel
theorem dX5_walkHart_52 : decode cX5_walkHart 52 = .ok (.iload_n 3, 1) := by decide +kernel
theorem dX5_walkHart_53 : decode cX5_walkHart 53 = .ok (.iload_n 2, 1) := by decide +kernel
theorem dX5_walkHart_54 : decode cX5_walkHart 54 = .ok (.if_icmp .ge 50, 3) := by decide +kernel
theorem dX5_walkHart_57 : decode cX5_walkHart 57 = .ok (.aload_n 0, 1) := by decide +kernel
theorem dX5_walkHart_58 : decode cX5_walkHart 58 = .ok (.getfield 9, 3) := by decide +kernel
theorem dX5_walkHart_61 : decode cX5_walkHart 61 = .ok (.aload_n 0, 1) := by decide +kernel
theorem dX5_walkHart_62 : decode cX5_walkHart 62 = .ok (.getfield 72, 3) := by decide +kernel
theorem dX5_walkHart_65 : decode cX5_walkHart 65 = .ok (.iload_n 3, 1) := by decide +kernel
theorem dX5_walkHart_66 : decode cX5_walkHart 66 = .ok (.invokevirtual 99, 3) := by decide +kernel
theorem dX5_walkHart_69 : decode cX5_walkHart 69 = .ok (.astore 4, 2) := by decide +kernel
theorem dX5_walkHart_71 : decode cX5_walkHart 71 = .ok (.aload 4, 2) := by decide +kernel
theorem dX5_walkHart_73 : decode cX5_walkHart 73 = .ok (.iconst 0, 1) := by decide +kernel
theorem dX5_walkHart_74 : decode cX5_walkHart 74 = .ok (.iaload, 1) := by decide +kernel
theorem dX5_walkHart_75 : decode cX5_walkHart 75 = .ok (.bipush 10, 2) := by decide +kernel
theorem dX5_walkHart_77 : decode cX5_walkHart 77 = .ok (.if_icmp .ne 15, 3) := by decide +kernel
theorem dX5_walkHart_80 : decode cX5_walkHart 80 = .ok (.iload_n 3, 1) := by decide +kernel
theorem dX5_walkHart_81 : decode cX5_walkHart 81 = .ok (.aload_n 0, 1) := by decide +kernel
theorem dX5_walkHart_82 : decode cX5_walkHart 82 = .ok (.aload 4, 2) := by decide +kernel
theorem dX5_walkHart_84 : decode cX5_walkHart 84 = .ok (.invokevirtual 103, 3) := by decide +kernel
theorem dX5_walkHart_87 : decode cX5_walkHart 87 = .ok (.iadd, 1) := by decide +kernel
theorem dX5_walkHart_88 : decode cX5_walkHart 88 = .ok (.istore_n 3, 1) := by decide +kernel
theorem dX5_walkHart_89 : decode cX5_walkHart 89 = .ok (.goto 9, 3) := by decide +kernel
theorem dX5_walkHart_92 : decode cX5_walkHart 92 = .ok (.aload_n 0, 1) := by decide +kernel
theorem dX5_walkHart_93 : decode cX5_walkHart 93 = .ok (.aload 4, 2) := by decide +kernel
theorem dX5_walkHart_95 : decode cX5_walkHart 95 = .ok (.invokevirtual 107, 3) := by decide +kernel
theorem dX5_walkHart_98 : decode cX5_walkHart 98 = .ok (.iinc 3 1, 3) := by decide +kernel
theorem dX5_walkHart_101 : decode cX5_walkHart 101 = .ok (.goto (-49), 3) := by decide +kernel
theorem dX5_walkHart_104 : decode cX5_walkHart 104 = .ok (.return_, 1) := by decide +kernel
set_option maxRecDepth 20000 in
theorem ggX5_leftOut_X5_carriedBy : GoodIn wsX5_leftOut wsX5_carriedBy := goodIn_r _ [6, 7, 8, 14, 15, 16, 17, 18, 19, 20, 21, 22, 23, 24, 25, 26, 27] (by decide +kernel) (by decide +kernel)
set_option maxRecDepth 20000 in
theorem gX5_leftOut_X5_carriedBy : GoodIn wsX5_leftOut (wsV RX5 111 RX5 yX5_carriedBy wsX5_carriedBy) := goodIn_app (goodIn_of _ (by decide +kernel)) ggX5_leftOut_X5_carriedBy
set_option maxRecDepth 20000 in
theorem ggX5_leftOut_X5_valueOf : GoodIn wsX5_leftOut wsX5_valueOf := goodIn_r _ [12, 13, 8, 14, 15, 16, 17, 18, 19, 20, 21, 22, 23, 24, 25, 26, 27] (by decide +kernel) (by decide +kernel)
set_option maxRecDepth 20000 in
theorem gX5_leftOut_X5_valueOf : GoodIn wsX5_leftOut (wsV RX5 114 RX5 yX5_valueOf wsX5_valueOf) := goodIn_app (goodIn_of _ (by decide +kernel)) ggX5_leftOut_X5_valueOf
theorem dX5_leftOut_0 : decode cX5_leftOut 0 = .ok (.aload_n 0, 1) := by decide +kernel
theorem dX5_leftOut_1 : decode cX5_leftOut 1 = .ok (.dup, 1) := by decide +kernel
theorem dX5_leftOut_2 : decode cX5_leftOut 2 = .ok (.getfield 81, 3) := by decide +kernel
theorem dX5_leftOut_5 : decode cX5_leftOut 5 = .ok (.aload_n 0, 1) := by decide +kernel
theorem dX5_leftOut_6 : decode cX5_leftOut 6 = .ok (.aload_n 1, 1) := by decide +kernel
theorem dX5_leftOut_7 : decode cX5_leftOut 7 = .ok (.iconst 1, 1) := by decide +kernel
theorem dX5_leftOut_8 : decode cX5_leftOut 8 = .ok (.iaload, 1) := by decide +kernel
theorem dX5_leftOut_9 : decode cX5_leftOut 9 = .ok (.invokevirtual 111, 3) := by decide +kernel
theorem dX5_leftOut_12 : decode cX5_leftOut 12 = .ok (.ior, 1) := by decide +kernel
theorem dX5_leftOut_13 : decode cX5_leftOut 13 = .ok (.putfield 81, 3) := by decide +kernel
theorem dX5_leftOut_16 : decode cX5_leftOut 16 = .ok (.aload_n 0, 1) := by decide +kernel
theorem dX5_leftOut_17 : decode cX5_leftOut 17 = .ok (.aload_n 1, 1) := by decide +kernel
theorem dX5_leftOut_18 : decode cX5_leftOut 18 = .ok (.iconst 1, 1) := by decide +kernel
theorem dX5_leftOut_19 : decode cX5_leftOut 19 = .ok (.iaload, 1) := by decide +kernel
theorem dX5_leftOut_20 : decode cX5_leftOut 20 = .ok (.invokevirtual 114, 3) := by decide +kernel
theorem dX5_leftOut_23 : decode cX5_leftOut 23 = .ok (.ifCond .ne 9, 3) := by decide +kernel
theorem dX5_leftOut_26 : decode cX5_leftOut 26 = .ok (.aload_n 1, 1) := by decide +kernel
theorem dX5_leftOut_27 : decode cX5_leftOut 27 = .ok (.iconst 2, 1) := by decide +kernel
theorem dX5_leftOut_28 : decode cX5_leftOut 28 = .ok (.iaload, 1) := by decide +kernel
theorem dX5_leftOut_29 : decode cX5_leftOut 29 = .ok (.goto 4, 3) := by decide +kernel
theorem dX5_leftOut_32 : decode cX5_leftOut 32 = .ok (.iconst 0, 1) := by decide +kernel
theorem dX5_leftOut_33 : decode cX5_leftOut 33 = .ok (.ireturn, 1) := by decide +kernel
set_option maxRecDepth 20000 in
theorem ggX5_step_X5_fence : GoodIn wsX5_step wsX5_fence := goodIn_r _ [6, 7, 8, 9, 10, 11, 69, 70, 71, 72, 73, 74, 75, 76, 77, 78, 79, 80, 81, 82, 83, 84, 85, 86, 87, 88, 89, 90, 91, 92, 93, 94, 95, 96] (by decide +kernel) (by decide +kernel)
set_option maxRecDepth 20000 in
theorem gX5_step_X5_fence : GoodIn wsX5_step (wsV RX5 117 RX5 yX5_fence wsX5_fence) := goodIn_app (goodIn_of _ (by decide +kernel)) ggX5_step_X5_fence
set_option maxRecDepth 20000 in
theorem ggX5_step_X5_setRegister : GoodIn wsX5_step wsX5_setRegister := goodIn_r _ [15, 16, 17, 18, 69, 70, 71, 72, 73, 74, 75, 76, 77, 78, 79, 80, 81, 82] (by decide +kernel) (by decide +kernel)
set_option maxRecDepth 20000 in
theorem gX5_step_X5_setRegister : GoodIn wsX5_step (wsV RX5 121 RX5 yX5_setRegister wsX5_setRegister) := goodIn_app (goodIn_of _ (by decide +kernel)) ggX5_step_X5_setRegister
set_option maxRecDepth 20000 in
theorem ggX5_step_X5_valueOf : GoodIn wsX5_step wsX5_valueOf := goodIn_r _ [22, 16, 17, 69, 70, 71, 72, 73, 74, 75, 76, 77, 78, 79, 80, 81, 82] (by decide +kernel) (by decide +kernel)
set_option maxRecDepth 20000 in
theorem gX5_step_X5_valueOf : GoodIn wsX5_step (wsV RX5 114 RX5 yX5_valueOf wsX5_valueOf) := goodIn_app (goodIn_of _ (by decide +kernel)) ggX5_step_X5_valueOf
set_option maxRecDepth 20000 in
theorem ggX5_step_X5_carriedBy : GoodIn wsX5_step wsX5_carriedBy := goodIn_r _ [26, 18, 17, 69, 70, 71, 72, 73, 74, 75, 76, 77, 78, 79, 80, 81, 82] (by decide +kernel) (by decide +kernel)
set_option maxRecDepth 20000 in
theorem gX5_step_X5_carriedBy : GoodIn wsX5_step (wsV RX5 111 RX5 yX5_carriedBy wsX5_carriedBy) := goodIn_app (goodIn_of _ (by decide +kernel)) ggX5_step_X5_carriedBy
set_option maxRecDepth 20000 in
theorem ggX5_step_X5_fails : GoodIn wsX5_step wsX5_fails := goodIn_r _ [30, 1, 9, 31, 32, 33, 34, 5, 35, 19, 20, 21, 22, 16, 17, 36, 37, 38, 39, 40, 41, 42, 43, 44, 69, 70, 71, 72, 73, 74, 75, 76, 77, 78, 79, 80, 81, 82, 83, 84, 85, 86, 87, 88, 89, 90, 91, 92, 93, 94, 95, 96, 97, 98, 99, 100] (by decide +kernel) (by decide +kernel)
set_option maxRecDepth 20000 in
theorem gX5_step_X5_fails : GoodIn wsX5_step (wsV RX5 125 RX5 yX5_fails wsX5_fails) := goodIn_app (goodIn_of _ (by decide +kernel)) ggX5_step_X5_fails
set_option maxRecDepth 20000 in
theorem ggX5_step_X5_makeAccess : GoodIn wsX5_step wsX5_makeAccess := goodIn_r _ [48, 8, 9, 17, 1, 31, 49, 32, 33, 34, 5, 35, 19, 20, 21, 22, 16, 50, 51, 52, 53, 54, 23, 24, 25, 26, 18, 36, 37, 38, 39, 40, 41, 42, 43, 44, 55, 56, 57, 58, 59, 60, 61, 62, 7, 63, 64, 65, 66, 10, 11, 67, 68, 12, 13, 14, 15, 69, 70, 71, 72, 73, 74, 75, 76, 77, 78, 79, 80, 81, 82, 83, 84, 85, 86, 87, 88, 89, 90, 91, 92, 93, 94, 95, 96, 97, 98, 99, 100] (by decide +kernel) (by decide +kernel)
set_option maxRecDepth 20000 in
theorem gX5_step_X5_makeAccess : GoodIn wsX5_step (wsV RX5 129 RX5 yX5_makeAccess wsX5_makeAccess) := goodIn_app (goodIn_of _ (by decide +kernel)) ggX5_step_X5_makeAccess
theorem dX5_step_0 : decode cX5_step 0 = .ok (.aload_n 1, 1) := by decide +kernel
theorem dX5_step_1 : decode cX5_step 1 = .ok (.iconst 0, 1) := by decide +kernel
theorem dX5_step_2 : decode cX5_step 2 = .ok (.iaload, 1) := by decide +kernel
theorem dX5_step_3 : decode cX5_step 3 = .ok (.tableswitch 173 5 9 #[140, 33, 46, 60, 100], 33) := by decide +kernel
theorem dX5_step_36 : decode cX5_step 36 = .ok (.aload_n 0, 1) := by decide +kernel
theorem dX5_step_37 : decode cX5_step 37 = .ok (.aload_n 1, 1) := by decide +kernel
theorem dX5_step_38 : decode cX5_step 38 = .ok (.iconst 1, 1) := by decide +kernel
theorem dX5_step_39 : decode cX5_step 39 = .ok (.iaload, 1) := by decide +kernel
theorem dX5_step_40 : decode cX5_step 40 = .ok (.aload_n 1, 1) := by decide +kernel
theorem dX5_step_41 : decode cX5_step 41 = .ok (.iconst 2, 1) := by decide +kernel
theorem dX5_step_42 : decode cX5_step 42 = .ok (.iaload, 1) := by decide +kernel
theorem dX5_step_43 : decode cX5_step 43 = .ok (.invokevirtual 117, 3) := by decide +kernel
theorem dX5_step_46 : decode cX5_step 46 = .ok (.goto 135, 3) := by decide +kernel
theorem dX5_step_49 : decode cX5_step 49 = .ok (.aload_n 0, 1) := by decide +kernel
theorem dX5_step_50 : decode cX5_step 50 = .ok (.aload_n 1, 1) := by decide +kernel
theorem dX5_step_51 : decode cX5_step 51 = .ok (.iconst 1, 1) := by decide +kernel
theorem dX5_step_52 : decode cX5_step 52 = .ok (.iaload, 1) := by decide +kernel
theorem dX5_step_53 : decode cX5_step 53 = .ok (.aload_n 1, 1) := by decide +kernel
theorem dX5_step_54 : decode cX5_step 54 = .ok (.iconst 2, 1) := by decide +kernel
theorem dX5_step_55 : decode cX5_step 55 = .ok (.iaload, 1) := by decide +kernel
theorem dX5_step_56 : decode cX5_step 56 = .ok (.iconst 0, 1) := by decide +kernel
theorem dX5_step_57 : decode cX5_step 57 = .ok (.invokevirtual 121, 3) := by decide +kernel
theorem dX5_step_60 : decode cX5_step 60 = .ok (.goto 121, 3) := by decide +kernel
theorem dX5_step_63 : decode cX5_step 63 = .ok (.aload_n 0, 1) := by decide +kernel
theorem dX5_step_64 : decode cX5_step 64 = .ok (.aload_n 1, 1) := by decide +kernel
theorem dX5_step_65 : decode cX5_step 65 = .ok (.iconst 1, 1) := by decide +kernel
theorem dX5_step_66 : decode cX5_step 66 = .ok (.iaload, 1) := by decide +kernel
theorem dX5_step_67 : decode cX5_step 67 = .ok (.aload_n 0, 1) := by decide +kernel
theorem dX5_step_68 : decode cX5_step 68 = .ok (.aload_n 1, 1) := by decide +kernel
theorem dX5_step_69 : decode cX5_step 69 = .ok (.iconst 2, 1) := by decide +kernel
theorem dX5_step_70 : decode cX5_step 70 = .ok (.iaload, 1) := by decide +kernel
theorem dX5_step_71 : decode cX5_step 71 = .ok (.invokevirtual 114, 3) := by decide +kernel
theorem dX5_step_74 : decode cX5_step 74 = .ok (.aload_n 0, 1) := by decide +kernel
theorem dX5_step_75 : decode cX5_step 75 = .ok (.aload_n 1, 1) := by decide +kernel
theorem dX5_step_76 : decode cX5_step 76 = .ok (.iconst 3, 1) := by decide +kernel
theorem dX5_step_77 : decode cX5_step 77 = .ok (.iaload, 1) := by decide +kernel
theorem dX5_step_78 : decode cX5_step 78 = .ok (.invokevirtual 114, 3) := by decide +kernel
theorem dX5_step_81 : decode cX5_step 81 = .ok (.iadd, 1) := by decide +kernel
theorem dX5_step_82 : decode cX5_step 82 = .ok (.aload_n 0, 1) := by decide +kernel
theorem dX5_step_83 : decode cX5_step 83 = .ok (.aload_n 1, 1) := by decide +kernel
theorem dX5_step_84 : decode cX5_step 84 = .ok (.iconst 2, 1) := by decide +kernel
theorem dX5_step_85 : decode cX5_step 85 = .ok (.iaload, 1) := by decide +kernel
theorem dX5_step_86 : decode cX5_step 86 = .ok (.invokevirtual 111, 3) := by decide +kernel
theorem dX5_step_89 : decode cX5_step 89 = .ok (.aload_n 0, 1) := by decide +kernel
theorem dX5_step_90 : decode cX5_step 90 = .ok (.aload_n 1, 1) := by decide +kernel
theorem dX5_step_91 : decode cX5_step 91 = .ok (.iconst 3, 1) := by decide +kernel
theorem dX5_step_92 : decode cX5_step 92 = .ok (.iaload, 1) := by decide +kernel
theorem dX5_step_93 : decode cX5_step 93 = .ok (.invokevirtual 111, 3) := by decide +kernel
theorem dX5_step_96 : decode cX5_step 96 = .ok (.ior, 1) := by decide +kernel
theorem dX5_step_97 : decode cX5_step 97 = .ok (.invokevirtual 121, 3) := by decide +kernel
theorem dX5_step_100 : decode cX5_step 100 = .ok (.goto 81, 3) := by decide +kernel
theorem dX5_step_103 : decode cX5_step 103 = .ok (.aload_n 0, 1) := by decide +kernel
theorem dX5_step_104 : decode cX5_step 104 = .ok (.aload_n 1, 1) := by decide +kernel
theorem dX5_step_105 : decode cX5_step 105 = .ok (.iconst 1, 1) := by decide +kernel
theorem dX5_step_106 : decode cX5_step 106 = .ok (.iaload, 1) := by decide +kernel
theorem dX5_step_107 : decode cX5_step 107 = .ok (.aload_n 0, 1) := by decide +kernel
theorem dX5_step_108 : decode cX5_step 108 = .ok (.aload_n 1, 1) := by decide +kernel
theorem dX5_step_109 : decode cX5_step 109 = .ok (.iconst 2, 1) := by decide +kernel
theorem dX5_step_110 : decode cX5_step 110 = .ok (.iaload, 1) := by decide +kernel
theorem dX5_step_111 : decode cX5_step 111 = .ok (.invokevirtual 114, 3) := by decide +kernel
theorem dX5_step_114 : decode cX5_step 114 = .ok (.aload_n 0, 1) := by decide +kernel
theorem dX5_step_115 : decode cX5_step 115 = .ok (.aload_n 1, 1) := by decide +kernel
theorem dX5_step_116 : decode cX5_step 116 = .ok (.iconst 3, 1) := by decide +kernel
theorem dX5_step_117 : decode cX5_step 117 = .ok (.iaload, 1) := by decide +kernel
theorem dX5_step_118 : decode cX5_step 118 = .ok (.invokevirtual 114, 3) := by decide +kernel
theorem dX5_step_121 : decode cX5_step 121 = .ok (.ixor, 1) := by decide +kernel
theorem dX5_step_122 : decode cX5_step 122 = .ok (.aload_n 0, 1) := by decide +kernel
theorem dX5_step_123 : decode cX5_step 123 = .ok (.aload_n 1, 1) := by decide +kernel
theorem dX5_step_124 : decode cX5_step 124 = .ok (.iconst 2, 1) := by decide +kernel
theorem dX5_step_125 : decode cX5_step 125 = .ok (.iaload, 1) := by decide +kernel
theorem dX5_step_126 : decode cX5_step 126 = .ok (.invokevirtual 111, 3) := by decide +kernel
theorem dX5_step_129 : decode cX5_step 129 = .ok (.aload_n 0, 1) := by decide +kernel
theorem dX5_step_130 : decode cX5_step 130 = .ok (.aload_n 1, 1) := by decide +kernel
theorem dX5_step_131 : decode cX5_step 131 = .ok (.iconst 3, 1) := by decide +kernel
theorem dX5_step_132 : decode cX5_step 132 = .ok (.iaload, 1) := by decide +kernel
theorem dX5_step_133 : decode cX5_step 133 = .ok (.invokevirtual 111, 3) := by decide +kernel
theorem dX5_step_136 : decode cX5_step 136 = .ok (.ior, 1) := by decide +kernel
theorem dX5_step_137 : decode cX5_step 137 = .ok (.invokevirtual 121, 3) := by decide +kernel
theorem dX5_step_140 : decode cX5_step 140 = .ok (.goto 41, 3) := by decide +kernel
theorem dX5_step_143 : decode cX5_step 143 = .ok (.aload_n 0, 1) := by decide +kernel
theorem dX5_step_144 : decode cX5_step 144 = .ok (.aload_n 1, 1) := by decide +kernel
theorem dX5_step_145 : decode cX5_step 145 = .ok (.invokevirtual 125, 3) := by decide +kernel
theorem dX5_step_148 : decode cX5_step 148 = .ok (.ifCond .eq 15, 3) := by decide +kernel
theorem dX5_step_151 : decode cX5_step 151 = .ok (.aload_n 0, 1) := by decide +kernel
theorem dX5_step_152 : decode cX5_step 152 = .ok (.aload_n 1, 1) := by decide +kernel
theorem dX5_step_153 : decode cX5_step 153 = .ok (.iconst 1, 1) := by decide +kernel
theorem dX5_step_154 : decode cX5_step 154 = .ok (.iaload, 1) := by decide +kernel
theorem dX5_step_155 : decode cX5_step 155 = .ok (.iconst 1, 1) := by decide +kernel
theorem dX5_step_156 : decode cX5_step 156 = .ok (.iconst 0, 1) := by decide +kernel
theorem dX5_step_157 : decode cX5_step 157 = .ok (.invokevirtual 121, 3) := by decide +kernel
theorem dX5_step_160 : decode cX5_step 160 = .ok (.goto 8, 3) := by decide +kernel
theorem dX5_step_163 : decode cX5_step 163 = .ok (.aload_n 0, 1) := by decide +kernel
theorem dX5_step_164 : decode cX5_step 164 = .ok (.aload_n 1, 1) := by decide +kernel
theorem dX5_step_165 : decode cX5_step 165 = .ok (.invokevirtual 129, 3) := by decide +kernel
theorem dX5_step_168 : decode cX5_step 168 = .ok (.aload_n 0, 1) := by decide +kernel
theorem dX5_step_169 : decode cX5_step 169 = .ok (.iconst (-1), 1) := by decide +kernel
theorem dX5_step_170 : decode cX5_step 170 = .ok (.putfield 78, 3) := by decide +kernel
theorem dX5_step_173 : decode cX5_step 173 = .ok (.goto 8, 3) := by decide +kernel
theorem dX5_step_176 : decode cX5_step 176 = .ok (.aload_n 0, 1) := by decide +kernel
theorem dX5_step_177 : decode cX5_step 177 = .ok (.aload_n 1, 1) := by decide +kernel
theorem dX5_step_178 : decode cX5_step 178 = .ok (.invokevirtual 129, 3) := by decide +kernel
theorem dX5_step_181 : decode cX5_step 181 = .ok (.return_, 1) := by decide +kernel
theorem dX5_fence_0 : decode cX5_fence 0 = .ok (.iconst 0, 1) := by decide +kernel
theorem dX5_fence_1 : decode cX5_fence 1 = .ok (.istore_n 3, 1) := by decide +kernel
theorem dX5_fence_2 : decode cX5_fence 2 = .ok (.aload_n 0, 1) := by decide +kernel
theorem dX5_fence_3 : decode cX5_fence 3 = .ok (.getfield 75, 3) := by decide +kernel
theorem dX5_fence_6 : decode cX5_fence 6 = .ok (.istore 4, 2) := by decide +kernel
theorem dX5_fence_8 : decode cX5_fence 8 = .ok (.iload 4, 2) := by decide +kernel
theorem dX5_fence_10 : decode cX5_fence 10 = .ok (.aload_n 0, 1) := by decide +kernel
theorem dX5_fence_11 : decode cX5_fence 11 = .ok (.getfield 33, 3) := by decide +kernel
theorem dX5_fence_14 : decode cX5_fence 14 = .ok (.if_icmp .ge 81, 3) := by decide +kernel
theorem dX5_fence_17 : decode cX5_fence 17 = .ok (.aload_n 0, 1) := by decide +kernel
theorem dX5_fence_18 : decode cX5_fence 18 = .ok (.getfield 21, 3) := by decide +kernel
theorem dX5_fence_21 : decode cX5_fence 21 = .ok (.iload 4, 2) := by decide +kernel
theorem dX5_fence_23 : decode cX5_fence 23 = .ok (.aaload, 1) := by decide +kernel
theorem dX5_fence_24 : decode cX5_fence 24 = .ok (.astore 5, 2) := by decide +kernel
theorem dX5_fence_26 : decode cX5_fence 26 = .ok (.aload 5, 2) := by decide +kernel
theorem dX5_fence_28 : decode cX5_fence 28 = .ok (.getfield 55, 3) := by decide +kernel
theorem dX5_fence_31 : decode cX5_fence 31 = .ok (.ifCond .eq 13, 3) := by decide +kernel
theorem dX5_fence_34 : decode cX5_fence 34 = .ok (.iload_n 1, 1) := by decide +kernel
theorem dX5_fence_35 : decode cX5_fence 35 = .ok (.iconst 1, 1) := by decide +kernel
theorem dX5_fence_36 : decode cX5_fence 36 = .ok (.iand, 1) := by decide +kernel
theorem dX5_fence_37 : decode cX5_fence 37 = .ok (.ifCond .eq 7, 3) := by decide +kernel
theorem dX5_fence_40 : decode cX5_fence 40 = .ok (.iconst 1, 1) := by decide +kernel
theorem dX5_fence_41 : decode cX5_fence 41 = .ok (.goto 4, 3) := by decide +kernel
theorem dX5_fence_44 : decode cX5_fence 44 = .ok (.iconst 0, 1) := by decide +kernel
theorem dX5_fence_45 : decode cX5_fence 45 = .ok (.istore 6, 2) := by decide +kernel
theorem dX5_fence_47 : decode cX5_fence 47 = .ok (.aload 5, 2) := by decide +kernel
theorem dX5_fence_49 : decode cX5_fence 49 = .ok (.getfield 66, 3) := by decide +kernel
theorem dX5_fence_52 : decode cX5_fence 52 = .ok (.ifCond .eq 13, 3) := by decide +kernel
theorem dX5_fence_55 : decode cX5_fence 55 = .ok (.iload_n 1, 1) := by decide +kernel
theorem dX5_fence_56 : decode cX5_fence 56 = .ok (.iconst 2, 1) := by decide +kernel
theorem dX5_fence_57 : decode cX5_fence 57 = .ok (.iand, 1) := by decide +kernel
theorem dX5_fence_58 : decode cX5_fence 58 = .ok (.ifCond .eq 7, 3) := by decide +kernel
theorem dX5_fence_61 : decode cX5_fence 61 = .ok (.iconst 1, 1) := by decide +kernel
theorem dX5_fence_62 : decode cX5_fence 62 = .ok (.goto 4, 3) := by decide +kernel
theorem dX5_fence_65 : decode cX5_fence 65 = .ok (.iconst 0, 1) := by decide +kernel
theorem dX5_fence_66 : decode cX5_fence 66 = .ok (.istore 7, 2) := by decide +kernel
theorem dX5_fence_68 : decode cX5_fence 68 = .ok (.iload_n 3, 1) := by decide +kernel
theorem dX5_fence_69 : decode cX5_fence 69 = .ok (.iload 6, 2) := by decide +kernel
theorem dX5_fence_71 : decode cX5_fence 71 = .ok (.ifCond .ne 8, 3) := by decide +kernel
theorem dX5_fence_74 : decode cX5_fence 74 = .ok (.iload 7, 2) := by decide +kernel
theorem dX5_fence_76 : decode cX5_fence 76 = .ok (.ifCond .eq 10, 3) := by decide +kernel
theorem dX5_fence_79 : decode cX5_fence 79 = .ok (.iconst 1, 1) := by decide +kernel
theorem dX5_fence_80 : decode cX5_fence 80 = .ok (.iload 4, 2) := by decide +kernel
theorem dX5_fence_82 : decode cX5_fence 82 = .ok (.ishl, 1) := by decide +kernel
theorem dX5_fence_83 : decode cX5_fence 83 = .ok (.goto 4, 3) := by decide +kernel
theorem dX5_fence_86 : decode cX5_fence 86 = .ok (.iconst 0, 1) := by decide +kernel
theorem dX5_fence_87 : decode cX5_fence 87 = .ok (.ior, 1) := by decide +kernel
theorem dX5_fence_88 : decode cX5_fence 88 = .ok (.istore_n 3, 1) := by decide +kernel
theorem dX5_fence_89 : decode cX5_fence 89 = .ok (.iinc 4 1, 3) := by decide +kernel
theorem dX5_fence_92 : decode cX5_fence 92 = .ok (.goto (-84), 3) := by decide +kernel
theorem dX5_fence_95 : decode cX5_fence 95 = .ok (.aload_n 0, 1) := by decide +kernel
theorem dX5_fence_96 : decode cX5_fence 96 = .ok (.dup, 1) := by decide +kernel
theorem dX5_fence_97 : decode cX5_fence 97 = .ok (.getfield 87, 3) := by decide +kernel
theorem dX5_fence_100 : decode cX5_fence 100 = .ok (.iload_n 2, 1) := by decide +kernel
theorem dX5_fence_101 : decode cX5_fence 101 = .ok (.iconst 1, 1) := by decide +kernel
theorem dX5_fence_102 : decode cX5_fence 102 = .ok (.iand, 1) := by decide +kernel
theorem dX5_fence_103 : decode cX5_fence 103 = .ok (.ifCond .eq 7, 3) := by decide +kernel
theorem dX5_fence_106 : decode cX5_fence 106 = .ok (.iload_n 3, 1) := by decide +kernel
theorem dX5_fence_107 : decode cX5_fence 107 = .ok (.goto 4, 3) := by decide +kernel
theorem dX5_fence_110 : decode cX5_fence 110 = .ok (.iconst 0, 1) := by decide +kernel
theorem dX5_fence_111 : decode cX5_fence 111 = .ok (.ior, 1) := by decide +kernel
theorem dX5_fence_112 : decode cX5_fence 112 = .ok (.putfield 87, 3) := by decide +kernel
theorem dX5_fence_115 : decode cX5_fence 115 = .ok (.aload_n 0, 1) := by decide +kernel
theorem dX5_fence_116 : decode cX5_fence 116 = .ok (.dup, 1) := by decide +kernel
theorem dX5_fence_117 : decode cX5_fence 117 = .ok (.getfield 90, 3) := by decide +kernel
theorem dX5_fence_120 : decode cX5_fence 120 = .ok (.iload_n 2, 1) := by decide +kernel
theorem dX5_fence_121 : decode cX5_fence 121 = .ok (.iconst 2, 1) := by decide +kernel
theorem dX5_fence_122 : decode cX5_fence 122 = .ok (.iand, 1) := by decide +kernel
theorem dX5_fence_123 : decode cX5_fence 123 = .ok (.ifCond .eq 7, 3) := by decide +kernel
theorem dX5_fence_126 : decode cX5_fence 126 = .ok (.iload_n 3, 1) := by decide +kernel
theorem dX5_fence_127 : decode cX5_fence 127 = .ok (.goto 4, 3) := by decide +kernel
theorem dX5_fence_130 : decode cX5_fence 130 = .ok (.iconst 0, 1) := by decide +kernel
theorem dX5_fence_131 : decode cX5_fence 131 = .ok (.ior, 1) := by decide +kernel
theorem dX5_fence_132 : decode cX5_fence 132 = .ok (.putfield 90, 3) := by decide +kernel
theorem dX5_fence_135 : decode cX5_fence 135 = .ok (.return_, 1) := by decide +kernel
set_option maxRecDepth 20000 in
theorem ggX5_fails_X5_place : GoodIn wsX5_fails wsX5_place := goodIn_r _ [8, 9, 10, 11, 7, 12, 13, 14, 24, 25, 26, 27, 28, 29, 30, 31, 32, 33, 34, 35, 36, 37] (by decide +kernel) (by decide +kernel)
set_option maxRecDepth 20000 in
theorem gX5_fails_X5_place : GoodIn wsX5_fails (wsV RX5 132 RX5 yX5_place wsX5_place) := goodIn_app (goodIn_of _ (by decide +kernel)) ggX5_fails_X5_place
set_option maxRecDepth 20000 in
theorem ggX5_fails_X1_choose : GoodIn wsX5_fails wsX1_choose := goodIn_r _ [19, 20, 21, 22, 23, 52, 53, 54, 55] (by decide +kernel) (by decide +kernel)
set_option maxRecDepth 20000 in
theorem gX5_fails_X1_choose : GoodIn wsX5_fails (wsV RX5 136 RX1 yX1_choose wsX1_choose) := goodIn_app (goodIn_of _ (by decide +kernel)) ggX5_fails_X1_choose
theorem dX5_fails_0 : decode cX5_fails 0 = .ok (.aload_n 0, 1) := by decide +kernel
theorem dX5_fails_1 : decode cX5_fails 1 = .ok (.getfield 78, 3) := by decide +kernel
theorem dX5_fails_4 : decode cX5_fails 4 = .ok (.iconst (-1), 1) := by decide +kernel
theorem dX5_fails_5 : decode cX5_fails 5 = .ok (.if_icmp .eq 32, 3) := by decide +kernel
theorem dX5_fails_8 : decode cX5_fails 8 = .ok (.aload_n 0, 1) := by decide +kernel
theorem dX5_fails_9 : decode cX5_fails 9 = .ok (.getfield 21, 3) := by decide +kernel
theorem dX5_fails_12 : decode cX5_fails 12 = .ok (.aload_n 0, 1) := by decide +kernel
theorem dX5_fails_13 : decode cX5_fails 13 = .ok (.getfield 78, 3) := by decide +kernel
theorem dX5_fails_16 : decode cX5_fails 16 = .ok (.aaload, 1) := by decide +kernel
theorem dX5_fails_17 : decode cX5_fails 17 = .ok (.getfield 69, 3) := by decide +kernel
theorem dX5_fails_20 : decode cX5_fails 20 = .ok (.aload_n 0, 1) := by decide +kernel
theorem dX5_fails_21 : decode cX5_fails 21 = .ok (.aload_n 1, 1) := by decide +kernel
theorem dX5_fails_22 : decode cX5_fails 22 = .ok (.iconst 3, 1) := by decide +kernel
theorem dX5_fails_23 : decode cX5_fails 23 = .ok (.iaload, 1) := by decide +kernel
theorem dX5_fails_24 : decode cX5_fails 24 = .ok (.aload_n 1, 1) := by decide +kernel
theorem dX5_fails_25 : decode cX5_fails 25 = .ok (.iconst 4, 1) := by decide +kernel
theorem dX5_fails_26 : decode cX5_fails 26 = .ok (.iaload, 1) := by decide +kernel
theorem dX5_fails_27 : decode cX5_fails 27 = .ok (.invokevirtual 132, 3) := by decide +kernel
theorem dX5_fails_30 : decode cX5_fails 30 = .ok (.if_icmp .ne 7, 3) := by decide +kernel
theorem dX5_fails_33 : decode cX5_fails 33 = .ok (.iconst 1, 1) := by decide +kernel
theorem dX5_fails_34 : decode cX5_fails 34 = .ok (.goto 4, 3) := by decide +kernel
theorem dX5_fails_37 : decode cX5_fails 37 = .ok (.iconst 0, 1) := by decide +kernel
theorem dX5_fails_38 : decode cX5_fails 38 = .ok (.istore_n 2, 1) := by decide +kernel
theorem dX5_fails_39 : decode cX5_fails 39 = .ok (.iload_n 2, 1) := by decide +kernel
theorem dX5_fails_40 : decode cX5_fails 40 = .ok (.ifCond .eq 15, 3) := by decide +kernel
theorem dX5_fails_43 : decode cX5_fails 43 = .ok (.aload_n 0, 1) := by decide +kernel
theorem dX5_fails_44 : decode cX5_fails 44 = .ok (.getfield 15, 3) := by decide +kernel
theorem dX5_fails_47 : decode cX5_fails 47 = .ok (.iconst 2, 1) := by decide +kernel
theorem dX5_fails_48 : decode cX5_fails 48 = .ok (.invokevirtual 136, 3) := by decide +kernel
theorem dX5_fails_51 : decode cX5_fails 51 = .ok (.iconst 1, 1) := by decide +kernel
theorem dX5_fails_52 : decode cX5_fails 52 = .ok (.if_icmp .ne 7, 3) := by decide +kernel
theorem dX5_fails_55 : decode cX5_fails 55 = .ok (.iconst 1, 1) := by decide +kernel
theorem dX5_fails_56 : decode cX5_fails 56 = .ok (.goto 4, 3) := by decide +kernel
theorem dX5_fails_59 : decode cX5_fails 59 = .ok (.iconst 0, 1) := by decide +kernel
theorem dX5_fails_60 : decode cX5_fails 60 = .ok (.ireturn, 1) := by decide +kernel
set_option maxRecDepth 20000 in
theorem ggX5_makeAccess_X5_place : GoodIn wsX5_makeAccess wsX5_place := goodIn_r _ [11, 12, 13, 14, 10, 15, 16, 3, 57, 58, 59, 60, 61, 62, 63, 64, 65, 66, 67, 68, 69, 70] (by decide +kernel) (by decide +kernel)
set_option maxRecDepth 20000 in
theorem gX5_makeAccess_X5_place : GoodIn wsX5_makeAccess (wsV RX5 132 RX5 yX5_place wsX5_place) := goodIn_app (goodIn_of _ (by decide +kernel)) ggX5_makeAccess_X5_place
set_option maxRecDepth 20000 in
theorem ggX5_makeAccess_X6_isReader : GoodIn wsX5_makeAccess wsX6_isReader := goodIn_r _ [19] (by decide +kernel) (by decide +kernel)
set_option maxRecDepth 20000 in
theorem gX5_makeAccess_X6_isReader_n148 : GoodIn wsX5_makeAccess (wsX6_isReader) := ggX5_makeAccess_X6_isReader
set_option maxRecDepth 20000 in
theorem ggX5_makeAccess_X6_isWriter : GoodIn wsX5_makeAccess wsX6_isWriter := goodIn_r _ [21] (by decide +kernel) (by decide +kernel)
set_option maxRecDepth 20000 in
theorem gX5_makeAccess_X6_isWriter_n151 : GoodIn wsX5_makeAccess (wsX6_isWriter) := ggX5_makeAccess_X6_isWriter
set_option maxRecDepth 20000 in
theorem ggX5_makeAccess_X5_carriedBy : GoodIn wsX5_makeAccess wsX5_carriedBy := goodIn_r _ [25, 26, 3, 57, 58, 59, 60, 61, 62, 63, 64, 65, 66, 67, 68, 69, 70] (by decide +kernel) (by decide +kernel)
set_option maxRecDepth 20000 in
theorem gX5_makeAccess_X5_carriedBy : GoodIn wsX5_makeAccess (wsV RX5 111 RX5 yX5_carriedBy wsX5_carriedBy) := goodIn_app (goodIn_of _ (by decide +kernel)) ggX5_makeAccess_X5_carriedBy
set_option maxRecDepth 20000 in
theorem ggX5_makeAccess_X1_choose : GoodIn wsX5_makeAccess wsX1_choose := goodIn_r _ [31, 32, 33, 34, 35, 85, 86, 87, 88] (by decide +kernel) (by decide +kernel)
set_option maxRecDepth 20000 in
theorem gX5_makeAccess_X1_choose : GoodIn wsX5_makeAccess (wsV RX5 136 RX1 yX1_choose wsX1_choose) := goodIn_app (goodIn_of _ (by decide +kernel)) ggX5_makeAccess_X1_choose
set_option maxRecDepth 20000 in
theorem ggX5_makeAccess_X5_written : GoodIn wsX5_makeAccess wsX5_written := goodIn_r _ [39, 12, 13, 14, 10, 15, 16, 3, 71, 72, 73, 74, 75, 76, 77, 78, 79, 80, 81, 82, 83, 84, 57, 58, 59, 60, 61, 62, 63, 64, 65, 66, 67, 68, 69, 70] (by decide +kernel) (by decide +kernel)
set_option maxRecDepth 20000 in
theorem gX5_makeAccess_X5_written : GoodIn wsX5_makeAccess (wsV RX5 161 RX5 yX5_written wsX5_written) := goodIn_app (goodIn_of _ (by decide +kernel)) ggX5_makeAccess_X5_written
set_option maxRecDepth 20000 in
theorem ggX5_makeAccess_X5_relate : GoodIn wsX5_makeAccess wsX5_relate := goodIn_r _ [43, 1, 44, 2, 45, 46, 47, 10, 48, 49, 50, 51, 6, 52, 71, 72, 73, 74, 75, 76, 77, 78, 79, 80, 81, 82, 83, 84, 57, 58, 59, 60, 61, 62, 63, 64, 65, 66, 67, 68, 69, 70] (by decide +kernel) (by decide +kernel)
set_option maxRecDepth 20000 in
theorem gX5_makeAccess_X5_relate : GoodIn wsX5_makeAccess (wsV RX5 165 RX5 yX5_relate wsX5_relate) := goodIn_app (goodIn_of _ (by decide +kernel)) ggX5_makeAccess_X5_relate
set_option maxRecDepth 20000 in
theorem ggX5_makeAccess_X5_setRegister : GoodIn wsX5_makeAccess wsX5_setRegister := goodIn_r _ [56, 16, 3, 26, 57, 58, 59, 60, 61, 62, 63, 64, 65, 66, 67, 68, 69, 70] (by decide +kernel) (by decide +kernel)
set_option maxRecDepth 20000 in
theorem gX5_makeAccess_X5_setRegister : GoodIn wsX5_makeAccess (wsV RX5 121 RX5 yX5_setRegister wsX5_setRegister) := goodIn_app (goodIn_of _ (by decide +kernel)) ggX5_makeAccess_X5_setRegister
theorem dX5_makeAccess_0 : decode cX5_makeAccess 0 = .ok (.aload_n 0, 1) := by decide +kernel
theorem dX5_makeAccess_1 : decode cX5_makeAccess 1 = .ok (.getfield 33, 3) := by decide +kernel
theorem dX5_makeAccess_4 : decode cX5_makeAccess 4 = .ok (.bipush 6, 2) := by decide +kernel
theorem dX5_makeAccess_6 : decode cX5_makeAccess 6 = .ok (.if_icmp .lt 4, 3) := by decide +kernel
theorem dX5_makeAccess_9 : decode cX5_makeAccess 9 = .ok (.return_, 1) := by decide +kernel
theorem dX5_makeAccess_10 : decode cX5_makeAccess 10 = .ok (.aload_n 1, 1) := by decide +kernel
theorem dX5_makeAccess_11 : decode cX5_makeAccess 11 = .ok (.iconst 0, 1) := by decide +kernel
theorem dX5_makeAccess_12 : decode cX5_makeAccess 12 = .ok (.iaload, 1) := by decide +kernel
theorem dX5_makeAccess_13 : decode cX5_makeAccess 13 = .ok (.istore_n 2, 1) := by decide +kernel
theorem dX5_makeAccess_14 : decode cX5_makeAccess 14 = .ok (.iload_n 2, 1) := by decide +kernel
theorem dX5_makeAccess_15 : decode cX5_makeAccess 15 = .ok (.iconst 2, 1) := by decide +kernel
theorem dX5_makeAccess_16 : decode cX5_makeAccess 16 = .ok (.if_icmp .eq 13, 3) := by decide +kernel
theorem dX5_makeAccess_19 : decode cX5_makeAccess 19 = .ok (.iload_n 2, 1) := by decide +kernel
theorem dX5_makeAccess_20 : decode cX5_makeAccess 20 = .ok (.iconst 3, 1) := by decide +kernel
theorem dX5_makeAccess_21 : decode cX5_makeAccess 21 = .ok (.if_icmp .eq 8, 3) := by decide +kernel
theorem dX5_makeAccess_24 : decode cX5_makeAccess 24 = .ok (.iload_n 2, 1) := by decide +kernel
theorem dX5_makeAccess_25 : decode cX5_makeAccess 25 = .ok (.iconst 5, 1) := by decide +kernel
theorem dX5_makeAccess_26 : decode cX5_makeAccess 26 = .ok (.if_icmp .ne 7, 3) := by decide +kernel
theorem dX5_makeAccess_29 : decode cX5_makeAccess 29 = .ok (.iconst 3, 1) := by decide +kernel
theorem dX5_makeAccess_30 : decode cX5_makeAccess 30 = .ok (.goto 4, 3) := by decide +kernel
theorem dX5_makeAccess_33 : decode cX5_makeAccess 33 = .ok (.iconst 2, 1) := by decide +kernel
theorem dX5_makeAccess_34 : decode cX5_makeAccess 34 = .ok (.istore_n 3, 1) := by decide +kernel
theorem dX5_makeAccess_35 : decode cX5_makeAccess 35 = .ok (.aload_n 0, 1) := by decide +kernel
theorem dX5_makeAccess_36 : decode cX5_makeAccess 36 = .ok (.getfield 33, 3) := by decide +kernel
theorem dX5_makeAccess_39 : decode cX5_makeAccess 39 = .ok (.istore 4, 2) := by decide +kernel
theorem dX5_makeAccess_41 : decode cX5_makeAccess 41 = .ok (.aload_n 0, 1) := by decide +kernel
theorem dX5_makeAccess_42 : decode cX5_makeAccess 42 = .ok (.getfield 21, 3) := by decide +kernel
theorem dX5_makeAccess_45 : decode cX5_makeAccess 45 = .ok (.iload 4, 2) := by decide +kernel
theorem dX5_makeAccess_47 : decode cX5_makeAccess 47 = .ok (.aaload, 1) := by decide +kernel
theorem dX5_makeAccess_48 : decode cX5_makeAccess 48 = .ok (.astore 5, 2) := by decide +kernel
theorem dX5_makeAccess_50 : decode cX5_makeAccess 50 = .ok (.aload 5, 2) := by decide +kernel
theorem dX5_makeAccess_52 : decode cX5_makeAccess 52 = .ok (.aload_n 0, 1) := by decide +kernel
theorem dX5_makeAccess_53 : decode cX5_makeAccess 53 = .ok (.getfield 72, 3) := by decide +kernel
theorem dX5_makeAccess_56 : decode cX5_makeAccess 56 = .ok (.putfield 141, 3) := by decide +kernel
theorem dX5_makeAccess_59 : decode cX5_makeAccess 59 = .ok (.aload 5, 2) := by decide +kernel
theorem dX5_makeAccess_61 : decode cX5_makeAccess 61 = .ok (.iload_n 2, 1) := by decide +kernel
theorem dX5_makeAccess_62 : decode cX5_makeAccess 62 = .ok (.putfield 142, 3) := by decide +kernel
theorem dX5_makeAccess_65 : decode cX5_makeAccess 65 = .ok (.aload 5, 2) := by decide +kernel
theorem dX5_makeAccess_67 : decode cX5_makeAccess 67 = .ok (.aload_n 0, 1) := by decide +kernel
theorem dX5_makeAccess_68 : decode cX5_makeAccess 68 = .ok (.aload_n 1, 1) := by decide +kernel
theorem dX5_makeAccess_69 : decode cX5_makeAccess 69 = .ok (.iload_n 3, 1) := by decide +kernel
theorem dX5_makeAccess_70 : decode cX5_makeAccess 70 = .ok (.iaload, 1) := by decide +kernel
theorem dX5_makeAccess_71 : decode cX5_makeAccess 71 = .ok (.aload_n 1, 1) := by decide +kernel
theorem dX5_makeAccess_72 : decode cX5_makeAccess 72 = .ok (.iload_n 3, 1) := by decide +kernel
theorem dX5_makeAccess_73 : decode cX5_makeAccess 73 = .ok (.iconst 1, 1) := by decide +kernel
theorem dX5_makeAccess_74 : decode cX5_makeAccess 74 = .ok (.iadd, 1) := by decide +kernel
theorem dX5_makeAccess_75 : decode cX5_makeAccess 75 = .ok (.iaload, 1) := by decide +kernel
theorem dX5_makeAccess_76 : decode cX5_makeAccess 76 = .ok (.invokevirtual 132, 3) := by decide +kernel
theorem dX5_makeAccess_79 : decode cX5_makeAccess 79 = .ok (.putfield 69, 3) := by decide +kernel
theorem dX5_makeAccess_82 : decode cX5_makeAccess 82 = .ok (.aload 5, 2) := by decide +kernel
theorem dX5_makeAccess_84 : decode cX5_makeAccess 84 = .ok (.aload_n 1, 1) := by decide +kernel
theorem dX5_makeAccess_85 : decode cX5_makeAccess 85 = .ok (.iload_n 3, 1) := by decide +kernel
theorem dX5_makeAccess_86 : decode cX5_makeAccess 86 = .ok (.iconst 2, 1) := by decide +kernel
theorem dX5_makeAccess_87 : decode cX5_makeAccess 87 = .ok (.iadd, 1) := by decide +kernel
theorem dX5_makeAccess_88 : decode cX5_makeAccess 88 = .ok (.iaload, 1) := by decide +kernel
theorem dX5_makeAccess_89 : decode cX5_makeAccess 89 = .ok (.putfield 145, 3) := by decide +kernel
theorem dX5_makeAccess_92 : decode cX5_makeAccess 92 = .ok (.aload 5, 2) := by decide +kernel
theorem dX5_makeAccess_94 : decode cX5_makeAccess 94 = .ok (.iload_n 2, 1) := by decide +kernel
theorem dX5_makeAccess_95 : decode cX5_makeAccess 95 = .ok (.invokestatic 148, 3) := by decide +kernel
theorem dX5_makeAccess_98 : decode cX5_makeAccess 98 = .ok (.putfield 55, 3) := by decide +kernel
theorem dX5_makeAccess_101 : decode cX5_makeAccess 101 = .ok (.aload 5, 2) := by decide +kernel
theorem dX5_makeAccess_103 : decode cX5_makeAccess 103 = .ok (.iload_n 2, 1) := by decide +kernel
theorem dX5_makeAccess_104 : decode cX5_makeAccess 104 = .ok (.invokestatic 151, 3) := by decide +kernel
theorem dX5_makeAccess_107 : decode cX5_makeAccess 107 = .ok (.putfield 66, 3) := by decide +kernel
theorem dX5_makeAccess_110 : decode cX5_makeAccess 110 = .ok (.aload 5, 2) := by decide +kernel
theorem dX5_makeAccess_112 : decode cX5_makeAccess 112 = .ok (.aload_n 1, 1) := by decide +kernel
theorem dX5_makeAccess_113 : decode cX5_makeAccess 113 = .ok (.iload_n 3, 1) := by decide +kernel
theorem dX5_makeAccess_114 : decode cX5_makeAccess 114 = .ok (.iconst 1, 1) := by decide +kernel
theorem dX5_makeAccess_115 : decode cX5_makeAccess 115 = .ok (.iadd, 1) := by decide +kernel
theorem dX5_makeAccess_116 : decode cX5_makeAccess 116 = .ok (.iaload, 1) := by decide +kernel
theorem dX5_makeAccess_117 : decode cX5_makeAccess 117 = .ok (.iconst (-1), 1) := by decide +kernel
theorem dX5_makeAccess_118 : decode cX5_makeAccess 118 = .ok (.if_icmp .ne 7, 3) := by decide +kernel
theorem dX5_makeAccess_121 : decode cX5_makeAccess 121 = .ok (.iconst 0, 1) := by decide +kernel
theorem dX5_makeAccess_122 : decode cX5_makeAccess 122 = .ok (.goto 12, 3) := by decide +kernel
theorem dX5_makeAccess_125 : decode cX5_makeAccess 125 = .ok (.aload_n 0, 1) := by decide +kernel
theorem dX5_makeAccess_126 : decode cX5_makeAccess 126 = .ok (.aload_n 1, 1) := by decide +kernel
theorem dX5_makeAccess_127 : decode cX5_makeAccess 127 = .ok (.iload_n 3, 1) := by decide +kernel
theorem dX5_makeAccess_128 : decode cX5_makeAccess 128 = .ok (.iconst 1, 1) := by decide +kernel
theorem dX5_makeAccess_129 : decode cX5_makeAccess 129 = .ok (.iadd, 1) := by decide +kernel
theorem dX5_makeAccess_130 : decode cX5_makeAccess 130 = .ok (.iaload, 1) := by decide +kernel
theorem dX5_makeAccess_131 : decode cX5_makeAccess 131 = .ok (.invokevirtual 111, 3) := by decide +kernel
theorem dX5_makeAccess_134 : decode cX5_makeAccess 134 = .ok (.putfield 154, 3) := by decide +kernel
theorem dX5_makeAccess_137 : decode cX5_makeAccess 137 = .ok (.aload 5, 2) := by decide +kernel
theorem dX5_makeAccess_139 : decode cX5_makeAccess 139 = .ok (.aload 5, 2) := by decide +kernel
theorem dX5_makeAccess_141 : decode cX5_makeAccess 141 = .ok (.getfield 66, 3) := by decide +kernel
theorem dX5_makeAccess_144 : decode cX5_makeAccess 144 = .ok (.ifCond .eq 15, 3) := by decide +kernel
theorem dX5_makeAccess_147 : decode cX5_makeAccess 147 = .ok (.aload_n 0, 1) := by decide +kernel
theorem dX5_makeAccess_148 : decode cX5_makeAccess 148 = .ok (.aload_n 1, 1) := by decide +kernel
theorem dX5_makeAccess_149 : decode cX5_makeAccess 149 = .ok (.iload_n 3, 1) := by decide +kernel
theorem dX5_makeAccess_150 : decode cX5_makeAccess 150 = .ok (.iconst 1, 1) := by decide +kernel
theorem dX5_makeAccess_151 : decode cX5_makeAccess 151 = .ok (.isub, 1) := by decide +kernel
theorem dX5_makeAccess_152 : decode cX5_makeAccess 152 = .ok (.iaload, 1) := by decide +kernel
theorem dX5_makeAccess_153 : decode cX5_makeAccess 153 = .ok (.invokevirtual 111, 3) := by decide +kernel
theorem dX5_makeAccess_156 : decode cX5_makeAccess 156 = .ok (.goto 4, 3) := by decide +kernel
theorem dX5_makeAccess_159 : decode cX5_makeAccess 159 = .ok (.iconst 0, 1) := by decide +kernel
theorem dX5_makeAccess_160 : decode cX5_makeAccess 160 = .ok (.putfield 157, 3) := by decide +kernel
theorem dX5_makeAccess_163 : decode cX5_makeAccess 163 = .ok (.aload 5, 2) := by decide +kernel
theorem dX5_makeAccess_165 : decode cX5_makeAccess 165 = .ok (.iload_n 2, 1) := by decide +kernel
theorem dX5_makeAccess_166 : decode cX5_makeAccess 166 = .ok (.iconst 5, 1) := by decide +kernel
theorem dX5_makeAccess_167 : decode cX5_makeAccess 167 = .ok (.if_icmp .ne 10, 3) := by decide +kernel
theorem dX5_makeAccess_170 : decode cX5_makeAccess 170 = .ok (.aload_n 0, 1) := by decide +kernel
theorem dX5_makeAccess_171 : decode cX5_makeAccess 171 = .ok (.getfield 78, 3) := by decide +kernel
theorem dX5_makeAccess_174 : decode cX5_makeAccess 174 = .ok (.goto 4, 3) := by decide +kernel
theorem dX5_makeAccess_177 : decode cX5_makeAccess 177 = .ok (.iconst (-1), 1) := by decide +kernel
theorem dX5_makeAccess_178 : decode cX5_makeAccess 178 = .ok (.putfield 160, 3) := by decide +kernel
theorem dX5_makeAccess_181 : decode cX5_makeAccess 181 = .ok (.aload 5, 2) := by decide +kernel
theorem dX5_makeAccess_183 : decode cX5_makeAccess 183 = .ok (.aload 5, 2) := by decide +kernel
theorem dX5_makeAccess_185 : decode cX5_makeAccess 185 = .ok (.getfield 55, 3) := by decide +kernel
theorem dX5_makeAccess_188 : decode cX5_makeAccess 188 = .ok (.ifCond .eq 14, 3) := by decide +kernel
theorem dX5_makeAccess_191 : decode cX5_makeAccess 191 = .ok (.aload_n 0, 1) := by decide +kernel
theorem dX5_makeAccess_192 : decode cX5_makeAccess 192 = .ok (.getfield 15, 3) := by decide +kernel
theorem dX5_makeAccess_195 : decode cX5_makeAccess 195 = .ok (.iconst 4, 1) := by decide +kernel
theorem dX5_makeAccess_196 : decode cX5_makeAccess 196 = .ok (.invokevirtual 136, 3) := by decide +kernel
theorem dX5_makeAccess_199 : decode cX5_makeAccess 199 = .ok (.goto 4, 3) := by decide +kernel
theorem dX5_makeAccess_202 : decode cX5_makeAccess 202 = .ok (.iconst 0, 1) := by decide +kernel
theorem dX5_makeAccess_203 : decode cX5_makeAccess 203 = .ok (.putfield 59, 3) := by decide +kernel
theorem dX5_makeAccess_206 : decode cX5_makeAccess 206 = .ok (.aload 5, 2) := by decide +kernel
theorem dX5_makeAccess_208 : decode cX5_makeAccess 208 = .ok (.aload 5, 2) := by decide +kernel
theorem dX5_makeAccess_210 : decode cX5_makeAccess 210 = .ok (.getfield 66, 3) := by decide +kernel
theorem dX5_makeAccess_213 : decode cX5_makeAccess 213 = .ok (.ifCond .eq 17, 3) := by decide +kernel
theorem dX5_makeAccess_216 : decode cX5_makeAccess 216 = .ok (.aload_n 0, 1) := by decide +kernel
theorem dX5_makeAccess_217 : decode cX5_makeAccess 217 = .ok (.aload_n 1, 1) := by decide +kernel
theorem dX5_makeAccess_218 : decode cX5_makeAccess 218 = .ok (.iload_n 3, 1) := by decide +kernel
theorem dX5_makeAccess_219 : decode cX5_makeAccess 219 = .ok (.iconst 1, 1) := by decide +kernel
theorem dX5_makeAccess_220 : decode cX5_makeAccess 220 = .ok (.isub, 1) := by decide +kernel
theorem dX5_makeAccess_221 : decode cX5_makeAccess 221 = .ok (.iaload, 1) := by decide +kernel
theorem dX5_makeAccess_222 : decode cX5_makeAccess 222 = .ok (.aload 5, 2) := by decide +kernel
theorem dX5_makeAccess_224 : decode cX5_makeAccess 224 = .ok (.invokevirtual 161, 3) := by decide +kernel
theorem dX5_makeAccess_227 : decode cX5_makeAccess 227 = .ok (.goto 4, 3) := by decide +kernel
theorem dX5_makeAccess_230 : decode cX5_makeAccess 230 = .ok (.iconst 0, 1) := by decide +kernel
theorem dX5_makeAccess_231 : decode cX5_makeAccess 231 = .ok (.putfield 39, 3) := by decide +kernel
theorem dX5_makeAccess_234 : decode cX5_makeAccess 234 = .ok (.aload_n 0, 1) := by decide +kernel
theorem dX5_makeAccess_235 : decode cX5_makeAccess 235 = .ok (.aload 5, 2) := by decide +kernel
theorem dX5_makeAccess_237 : decode cX5_makeAccess 237 = .ok (.invokevirtual 165, 3) := by decide +kernel
theorem dX5_makeAccess_240 : decode cX5_makeAccess 240 = .ok (.aload_n 0, 1) := by decide +kernel
theorem dX5_makeAccess_241 : decode cX5_makeAccess 241 = .ok (.dup, 1) := by decide +kernel
theorem dX5_makeAccess_242 : decode cX5_makeAccess 242 = .ok (.getfield 33, 3) := by decide +kernel
theorem dX5_makeAccess_245 : decode cX5_makeAccess 245 = .ok (.iconst 1, 1) := by decide +kernel
theorem dX5_makeAccess_246 : decode cX5_makeAccess 246 = .ok (.iadd, 1) := by decide +kernel
