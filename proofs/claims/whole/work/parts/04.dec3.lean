theorem dX7_isGood_67 : decode cX7_isGood 67 = .ok (.iload_n 2, 1) := by decide +kernel
theorem dX7_isGood_68 : decode cX7_isGood 68 = .ok (.iload_n 3, 1) := by decide +kernel
theorem dX7_isGood_69 : decode cX7_isGood 69 = .ok (.invokestatic 104, 3) := by decide +kernel
theorem dX7_isGood_72 : decode cX7_isGood 72 = .ok (.ifCond .eq 24, 3) := by decide +kernel
theorem dX7_isGood_75 : decode cX7_isGood 75 = .ok (.iload 4, 2) := by decide +kernel
theorem dX7_isGood_77 : decode cX7_isGood 77 = .ok (.ifCond .eq 15, 3) := by decide +kernel
theorem dX7_isGood_80 : decode cX7_isGood 80 = .ok (.iload 4, 2) := by decide +kernel
theorem dX7_isGood_82 : decode cX7_isGood 82 = .ok (.iconst 1, 1) := by decide +kernel
theorem dX7_isGood_83 : decode cX7_isGood 83 = .ok (.if_icmp .eq 9, 3) := by decide +kernel
theorem dX7_isGood_86 : decode cX7_isGood 86 = .ok (.iload 4, 2) := by decide +kernel
theorem dX7_isGood_88 : decode cX7_isGood 88 = .ok (.iconst 3, 1) := by decide +kernel
theorem dX7_isGood_89 : decode cX7_isGood 89 = .ok (.if_icmp .ne 7, 3) := by decide +kernel
theorem dX7_isGood_92 : decode cX7_isGood 92 = .ok (.iconst 1, 1) := by decide +kernel
theorem dX7_isGood_93 : decode cX7_isGood 93 = .ok (.goto 4, 3) := by decide +kernel
theorem dX7_isGood_96 : decode cX7_isGood 96 = .ok (.iconst 0, 1) := by decide +kernel
theorem dX7_isGood_97 : decode cX7_isGood 97 = .ok (.ireturn, 1) := by decide +kernel
theorem dX7_isGood_98 : decode cX7_isGood 98 = .ok (.iload_n 1, 1) := by decide +kernel
theorem dX7_isGood_99 : decode cX7_isGood 99 = .ok (.invokestatic 100, 3) := by decide +kernel
theorem dX7_isGood_102 : decode cX7_isGood 102 = .ok (.ifCond .eq 26, 3) := by decide +kernel
theorem dX7_isGood_105 : decode cX7_isGood 105 = .ok (.iload_n 2, 1) := by decide +kernel
theorem dX7_isGood_106 : decode cX7_isGood 106 = .ok (.iload_n 3, 1) := by decide +kernel
theorem dX7_isGood_107 : decode cX7_isGood 107 = .ok (.invokestatic 104, 3) := by decide +kernel
theorem dX7_isGood_110 : decode cX7_isGood 110 = .ok (.ifCond .eq 18, 3) := by decide +kernel
theorem dX7_isGood_113 : decode cX7_isGood 113 = .ok (.iload 4, 2) := by decide +kernel
theorem dX7_isGood_115 : decode cX7_isGood 115 = .ok (.ifCond .eq 9, 3) := by decide +kernel
theorem dX7_isGood_118 : decode cX7_isGood 118 = .ok (.iload 4, 2) := by decide +kernel
theorem dX7_isGood_120 : decode cX7_isGood 120 = .ok (.iconst 2, 1) := by decide +kernel
theorem dX7_isGood_121 : decode cX7_isGood 121 = .ok (.if_icmp .ne 7, 3) := by decide +kernel
theorem dX7_isGood_124 : decode cX7_isGood 124 = .ok (.iconst 1, 1) := by decide +kernel
theorem dX7_isGood_125 : decode cX7_isGood 125 = .ok (.goto 4, 3) := by decide +kernel
theorem dX7_isGood_128 : decode cX7_isGood 128 = .ok (.iconst 0, 1) := by decide +kernel
theorem dX7_isGood_129 : decode cX7_isGood 129 = .ok (.ireturn, 1) := by decide +kernel
theorem dX7_isGood_130 : decode cX7_isGood 130 = .ok (.iload_n 1, 1) := by decide +kernel
theorem dX7_isGood_131 : decode cX7_isGood 131 = .ok (.invokestatic 100, 3) := by decide +kernel
theorem dX7_isGood_134 : decode cX7_isGood 134 = .ok (.ifCond .eq 33, 3) := by decide +kernel
theorem dX7_isGood_137 : decode cX7_isGood 137 = .ok (.iload_n 2, 1) := by decide +kernel
theorem dX7_isGood_138 : decode cX7_isGood 138 = .ok (.invokestatic 100, 3) := by decide +kernel
theorem dX7_isGood_141 : decode cX7_isGood 141 = .ok (.ifCond .eq 26, 3) := by decide +kernel
theorem dX7_isGood_144 : decode cX7_isGood 144 = .ok (.iload_n 3, 1) := by decide +kernel
theorem dX7_isGood_145 : decode cX7_isGood 145 = .ok (.iload 4, 2) := by decide +kernel
theorem dX7_isGood_147 : decode cX7_isGood 147 = .ok (.invokestatic 104, 3) := by decide +kernel
theorem dX7_isGood_150 : decode cX7_isGood 150 = .ok (.ifCond .eq 17, 3) := by decide +kernel
theorem dX7_isGood_153 : decode cX7_isGood 153 = .ok (.iload 5, 2) := by decide +kernel
theorem dX7_isGood_155 : decode cX7_isGood 155 = .ok (.iconst 0, 1) := by decide +kernel
theorem dX7_isGood_156 : decode cX7_isGood 156 = .ok (.iconst 3, 1) := by decide +kernel
theorem dX7_isGood_157 : decode cX7_isGood 157 = .ok (.invokestatic 96, 3) := by decide +kernel
theorem dX7_isGood_160 : decode cX7_isGood 160 = .ok (.ifCond .eq 7, 3) := by decide +kernel
theorem dX7_isGood_163 : decode cX7_isGood 163 = .ok (.iconst 1, 1) := by decide +kernel
theorem dX7_isGood_164 : decode cX7_isGood 164 = .ok (.goto 4, 3) := by decide +kernel
theorem dX7_isGood_167 : decode cX7_isGood 167 = .ok (.iconst 0, 1) := by decide +kernel
theorem dX7_isGood_168 : decode cX7_isGood 168 = .ok (.ireturn, 1) := by decide +kernel
theorem dX7_isGood_169 : decode cX7_isGood 169 = .ok (.iload_n 1, 1) := by decide +kernel
theorem dX7_isGood_170 : decode cX7_isGood 170 = .ok (.iconst 0, 1) := by decide +kernel
theorem dX7_isGood_171 : decode cX7_isGood 171 = .ok (.iconst 3, 1) := by decide +kernel
theorem dX7_isGood_172 : decode cX7_isGood 172 = .ok (.invokestatic 96, 3) := by decide +kernel
theorem dX7_isGood_175 : decode cX7_isGood 175 = .ok (.ifCond .eq 16, 3) := by decide +kernel
theorem dX7_isGood_178 : decode cX7_isGood 178 = .ok (.iload_n 2, 1) := by decide +kernel
theorem dX7_isGood_179 : decode cX7_isGood 179 = .ok (.iconst 0, 1) := by decide +kernel
theorem dX7_isGood_180 : decode cX7_isGood 180 = .ok (.iconst 3, 1) := by decide +kernel
theorem dX7_isGood_181 : decode cX7_isGood 181 = .ok (.invokestatic 96, 3) := by decide +kernel
theorem dX7_isGood_184 : decode cX7_isGood 184 = .ok (.ifCond .eq 7, 3) := by decide +kernel
theorem dX7_isGood_187 : decode cX7_isGood 187 = .ok (.iconst 1, 1) := by decide +kernel
theorem dX7_isGood_188 : decode cX7_isGood 188 = .ok (.goto 4, 3) := by decide +kernel
theorem dX7_isGood_191 : decode cX7_isGood 191 = .ok (.iconst 0, 1) := by decide +kernel
theorem dX7_isGood_192 : decode cX7_isGood 192 = .ok (.ireturn, 1) := by decide +kernel
theorem dX7_isGood_193 : decode cX7_isGood 193 = .ok (.iload_n 1, 1) := by decide +kernel
theorem dX7_isGood_194 : decode cX7_isGood 194 = .ok (.invokestatic 100, 3) := by decide +kernel
theorem dX7_isGood_197 : decode cX7_isGood 197 = .ok (.ifCond .eq 21, 3) := by decide +kernel
theorem dX7_isGood_200 : decode cX7_isGood 200 = .ok (.iload_n 2, 1) := by decide +kernel
theorem dX7_isGood_201 : decode cX7_isGood 201 = .ok (.invokestatic 100, 3) := by decide +kernel
theorem dX7_isGood_204 : decode cX7_isGood 204 = .ok (.ifCond .eq 14, 3) := by decide +kernel
theorem dX7_isGood_207 : decode cX7_isGood 207 = .ok (.iload_n 3, 1) := by decide +kernel
theorem dX7_isGood_208 : decode cX7_isGood 208 = .ok (.invokestatic 100, 3) := by decide +kernel
theorem dX7_isGood_211 : decode cX7_isGood 211 = .ok (.ifCond .eq 7, 3) := by decide +kernel
theorem dX7_isGood_214 : decode cX7_isGood 214 = .ok (.iconst 1, 1) := by decide +kernel
theorem dX7_isGood_215 : decode cX7_isGood 215 = .ok (.goto 4, 3) := by decide +kernel
theorem dX7_isGood_218 : decode cX7_isGood 218 = .ok (.iconst 0, 1) := by decide +kernel
theorem dX7_isGood_219 : decode cX7_isGood 219 = .ok (.ireturn, 1) := by decide +kernel
theorem dX7_isGood_220 : decode cX7_isGood 220 = .ok (.iload_n 1, 1) := by decide +kernel
theorem dX7_isGood_221 : decode cX7_isGood 221 = .ok (.invokestatic 100, 3) := by decide +kernel
theorem dX7_isGood_224 : decode cX7_isGood 224 = .ok (.ifCond .eq 16, 3) := by decide +kernel
theorem dX7_isGood_227 : decode cX7_isGood 227 = .ok (.iload_n 2, 1) := by decide +kernel
theorem dX7_isGood_228 : decode cX7_isGood 228 = .ok (.iconst 1, 1) := by decide +kernel
theorem dX7_isGood_229 : decode cX7_isGood 229 = .ok (.iconst 5, 1) := by decide +kernel
theorem dX7_isGood_230 : decode cX7_isGood 230 = .ok (.invokestatic 96, 3) := by decide +kernel
theorem dX7_isGood_233 : decode cX7_isGood 233 = .ok (.ifCond .eq 7, 3) := by decide +kernel
theorem dX7_isGood_236 : decode cX7_isGood 236 = .ok (.iconst 1, 1) := by decide +kernel
theorem dX7_isGood_237 : decode cX7_isGood 237 = .ok (.goto 4, 3) := by decide +kernel
theorem dX7_isGood_240 : decode cX7_isGood 240 = .ok (.iconst 0, 1) := by decide +kernel
theorem dX7_isGood_241 : decode cX7_isGood 241 = .ok (.ireturn, 1) := by decide +kernel
theorem dX7_isGood_242 : decode cX7_isGood 242 = .ok (.iconst 0, 1) := by decide +kernel
theorem dX7_isGood_243 : decode cX7_isGood 243 = .ok (.ireturn, 1) := by decide +kernel
theorem dX7_numbersOf_0 : decode cX7_numbersOf 0 = .ok (.iload_n 0, 1) := by decide +kernel
theorem dX7_numbersOf_1 : decode cX7_numbersOf 1 = .ok (.iconst 2, 1) := by decide +kernel
theorem dX7_numbersOf_2 : decode cX7_numbersOf 2 = .ok (.if_icmp .eq 13, 3) := by decide +kernel
theorem dX7_numbersOf_5 : decode cX7_numbersOf 5 = .ok (.iload_n 0, 1) := by decide +kernel
theorem dX7_numbersOf_6 : decode cX7_numbersOf 6 = .ok (.iconst 3, 1) := by decide +kernel
theorem dX7_numbersOf_7 : decode cX7_numbersOf 7 = .ok (.if_icmp .eq 8, 3) := by decide +kernel
theorem dX7_numbersOf_10 : decode cX7_numbersOf 10 = .ok (.iload_n 0, 1) := by decide +kernel
theorem dX7_numbersOf_11 : decode cX7_numbersOf 11 = .ok (.iconst 5, 1) := by decide +kernel
theorem dX7_numbersOf_12 : decode cX7_numbersOf 12 = .ok (.if_icmp .ne 7, 3) := by decide +kernel
theorem dX7_numbersOf_15 : decode cX7_numbersOf 15 = .ok (.iconst 5, 1) := by decide +kernel
theorem dX7_numbersOf_16 : decode cX7_numbersOf 16 = .ok (.goto 30, 3) := by decide +kernel
theorem dX7_numbersOf_19 : decode cX7_numbersOf 19 = .ok (.iload_n 0, 1) := by decide +kernel
theorem dX7_numbersOf_20 : decode cX7_numbersOf 20 = .ok (.bipush 6, 2) := by decide +kernel
theorem dX7_numbersOf_22 : decode cX7_numbersOf 22 = .ok (.if_icmp .ge 7, 3) := by decide +kernel
theorem dX7_numbersOf_25 : decode cX7_numbersOf 25 = .ok (.iconst 4, 1) := by decide +kernel
theorem dX7_numbersOf_26 : decode cX7_numbersOf 26 = .ok (.goto 20, 3) := by decide +kernel
theorem dX7_numbersOf_29 : decode cX7_numbersOf 29 = .ok (.iload_n 0, 1) := by decide +kernel
theorem dX7_numbersOf_30 : decode cX7_numbersOf 30 = .ok (.bipush 8, 2) := by decide +kernel
theorem dX7_numbersOf_32 : decode cX7_numbersOf 32 = .ok (.if_icmp .eq 9, 3) := by decide +kernel
theorem dX7_numbersOf_35 : decode cX7_numbersOf 35 = .ok (.iload_n 0, 1) := by decide +kernel
theorem dX7_numbersOf_36 : decode cX7_numbersOf 36 = .ok (.bipush 9, 2) := by decide +kernel
theorem dX7_numbersOf_38 : decode cX7_numbersOf 38 = .ok (.if_icmp .ne 7, 3) := by decide +kernel
theorem dX7_numbersOf_41 : decode cX7_numbersOf 41 = .ok (.iconst 3, 1) := by decide +kernel
theorem dX7_numbersOf_42 : decode cX7_numbersOf 42 = .ok (.goto 4, 3) := by decide +kernel
theorem dX7_numbersOf_45 : decode cX7_numbersOf 45 = .ok (.iconst 2, 1) := by decide +kernel
theorem dX7_numbersOf_46 : decode cX7_numbersOf 46 = .ok (.ireturn, 1) := by decide +kernel
theorem dX7_isReading_0 : decode cX7_isReading 0 = .ok (.iload_n 0, 1) := by decide +kernel
theorem dX7_isReading_1 : decode cX7_isReading 1 = .ok (.ifCond .eq 18, 3) := by decide +kernel
theorem dX7_isReading_4 : decode cX7_isReading 4 = .ok (.iload_n 0, 1) := by decide +kernel
theorem dX7_isReading_5 : decode cX7_isReading 5 = .ok (.iconst 2, 1) := by decide +kernel
theorem dX7_isReading_6 : decode cX7_isReading 6 = .ok (.if_icmp .eq 13, 3) := by decide +kernel
theorem dX7_isReading_9 : decode cX7_isReading 9 = .ok (.iload_n 0, 1) := by decide +kernel
theorem dX7_isReading_10 : decode cX7_isReading 10 = .ok (.iconst 3, 1) := by decide +kernel
theorem dX7_isReading_11 : decode cX7_isReading 11 = .ok (.if_icmp .eq 8, 3) := by decide +kernel
theorem dX7_isReading_14 : decode cX7_isReading 14 = .ok (.iload_n 0, 1) := by decide +kernel
theorem dX7_isReading_15 : decode cX7_isReading 15 = .ok (.iconst 4, 1) := by decide +kernel
theorem dX7_isReading_16 : decode cX7_isReading 16 = .ok (.if_icmp .ne 7, 3) := by decide +kernel
theorem dX7_isReading_19 : decode cX7_isReading 19 = .ok (.iconst 1, 1) := by decide +kernel
theorem dX7_isReading_20 : decode cX7_isReading 20 = .ok (.goto 4, 3) := by decide +kernel
theorem dX7_isReading_23 : decode cX7_isReading 23 = .ok (.iconst 0, 1) := by decide +kernel
theorem dX7_isReading_24 : decode cX7_isReading 24 = .ok (.ireturn, 1) := by decide +kernel
theorem dX7_isWriting_0 : decode cX7_isWriting 0 = .ok (.iload_n 0, 1) := by decide +kernel
theorem dX7_isWriting_1 : decode cX7_isWriting 1 = .ok (.iconst 1, 1) := by decide +kernel
theorem dX7_isWriting_2 : decode cX7_isWriting 2 = .ok (.if_icmp .eq 18, 3) := by decide +kernel
theorem dX7_isWriting_5 : decode cX7_isWriting 5 = .ok (.iload_n 0, 1) := by decide +kernel
theorem dX7_isWriting_6 : decode cX7_isWriting 6 = .ok (.iconst 2, 1) := by decide +kernel
theorem dX7_isWriting_7 : decode cX7_isWriting 7 = .ok (.if_icmp .eq 13, 3) := by decide +kernel
theorem dX7_isWriting_10 : decode cX7_isWriting 10 = .ok (.iload_n 0, 1) := by decide +kernel
theorem dX7_isWriting_11 : decode cX7_isWriting 11 = .ok (.iconst 3, 1) := by decide +kernel
theorem dX7_isWriting_12 : decode cX7_isWriting 12 = .ok (.if_icmp .eq 8, 3) := by decide +kernel
theorem dX7_isWriting_15 : decode cX7_isWriting 15 = .ok (.iload_n 0, 1) := by decide +kernel
theorem dX7_isWriting_16 : decode cX7_isWriting 16 = .ok (.iconst 5, 1) := by decide +kernel
theorem dX7_isWriting_17 : decode cX7_isWriting 17 = .ok (.if_icmp .ne 7, 3) := by decide +kernel
theorem dX7_isWriting_20 : decode cX7_isWriting 20 = .ok (.iconst 1, 1) := by decide +kernel
theorem dX7_isWriting_21 : decode cX7_isWriting 21 = .ok (.goto 4, 3) := by decide +kernel
theorem dX7_isWriting_24 : decode cX7_isWriting 24 = .ok (.iconst 0, 1) := by decide +kernel
theorem dX7_isWriting_25 : decode cX7_isWriting 25 = .ok (.ireturn, 1) := by decide +kernel
set_option maxRecDepth 20000 in
theorem ggX7_instructions_X7_isReading : GoodIn wsX7_instructions wsX7_isReading := goodIn_r _ [6] (by decide +kernel) (by decide +kernel)
set_option maxRecDepth 20000 in
theorem gX7_instructions_X7_isReading : GoodIn wsX7_instructions (va_wsS RX7 108 yX7_isReading wsX7_isReading) := goodIn_app (goodIn_of _ (by decide +kernel)) ggX7_instructions_X7_isReading
theorem dX7_instructions_0 : decode cX7_instructions 0 = .ok (.iconst 0, 1) := by decide +kernel
theorem dX7_instructions_1 : decode cX7_instructions 1 = .ok (.istore_n 2, 1) := by decide +kernel
theorem dX7_instructions_2 : decode cX7_instructions 2 = .ok (.iconst 0, 1) := by decide +kernel
theorem dX7_instructions_3 : decode cX7_instructions 3 = .ok (.istore_n 3, 1) := by decide +kernel
theorem dX7_instructions_4 : decode cX7_instructions 4 = .ok (.iload_n 3, 1) := by decide +kernel
theorem dX7_instructions_5 : decode cX7_instructions 5 = .ok (.iconst 4, 1) := by decide +kernel
theorem dX7_instructions_6 : decode cX7_instructions 6 = .ok (.if_icmp .ge 83, 3) := by decide +kernel
theorem dX7_instructions_9 : decode cX7_instructions 9 = .ok (.iconst 0, 1) := by decide +kernel
theorem dX7_instructions_10 : decode cX7_instructions 10 = .ok (.istore 4, 2) := by decide +kernel
theorem dX7_instructions_12 : decode cX7_instructions 12 = .ok (.iload 4, 2) := by decide +kernel
theorem dX7_instructions_14 : decode cX7_instructions 14 = .ok (.aload_n 0, 1) := by decide +kernel
theorem dX7_instructions_15 : decode cX7_instructions 15 = .ok (.getfield 13, 3) := by decide +kernel
theorem dX7_instructions_18 : decode cX7_instructions 18 = .ok (.iload_n 3, 1) := by decide +kernel
theorem dX7_instructions_19 : decode cX7_instructions 19 = .ok (.iaload, 1) := by decide +kernel
theorem dX7_instructions_20 : decode cX7_instructions 20 = .ok (.if_icmp .ge 63, 3) := by decide +kernel
theorem dX7_instructions_23 : decode cX7_instructions 23 = .ok (.aload_n 0, 1) := by decide +kernel
theorem dX7_instructions_24 : decode cX7_instructions 24 = .ok (.getfield 7, 3) := by decide +kernel
theorem dX7_instructions_27 : decode cX7_instructions 27 = .ok (.bipush 36, 2) := by decide +kernel
theorem dX7_instructions_29 : decode cX7_instructions 29 = .ok (.iload_n 3, 1) := by decide +kernel
theorem dX7_instructions_30 : decode cX7_instructions 30 = .ok (.imul, 1) := by decide +kernel
theorem dX7_instructions_31 : decode cX7_instructions 31 = .ok (.bipush 6, 2) := by decide +kernel
theorem dX7_instructions_33 : decode cX7_instructions 33 = .ok (.iload 4, 2) := by decide +kernel
theorem dX7_instructions_35 : decode cX7_instructions 35 = .ok (.imul, 1) := by decide +kernel
theorem dX7_instructions_36 : decode cX7_instructions 36 = .ok (.iadd, 1) := by decide +kernel
theorem dX7_instructions_37 : decode cX7_instructions 37 = .ok (.iaload, 1) := by decide +kernel
theorem dX7_instructions_38 : decode cX7_instructions 38 = .ok (.istore 5, 2) := by decide +kernel
theorem dX7_instructions_40 : decode cX7_instructions 40 = .ok (.iload_n 1, 1) := by decide +kernel
theorem dX7_instructions_41 : decode cX7_instructions 41 = .ok (.ifCond .eq 28, 3) := by decide +kernel
theorem dX7_instructions_44 : decode cX7_instructions 44 = .ok (.iload_n 1, 1) := by decide +kernel
theorem dX7_instructions_45 : decode cX7_instructions 45 = .ok (.iconst 1, 1) := by decide +kernel
theorem dX7_instructions_46 : decode cX7_instructions 46 = .ok (.if_icmp .ne 10, 3) := by decide +kernel
theorem dX7_instructions_49 : decode cX7_instructions 49 = .ok (.iload 5, 2) := by decide +kernel
theorem dX7_instructions_51 : decode cX7_instructions 51 = .ok (.bipush 6, 2) := by decide +kernel
theorem dX7_instructions_53 : decode cX7_instructions 53 = .ok (.if_icmp .lt 16, 3) := by decide +kernel
theorem dX7_instructions_56 : decode cX7_instructions 56 = .ok (.iload_n 1, 1) := by decide +kernel
theorem dX7_instructions_57 : decode cX7_instructions 57 = .ok (.iconst 2, 1) := by decide +kernel
theorem dX7_instructions_58 : decode cX7_instructions 58 = .ok (.if_icmp .ne 17, 3) := by decide +kernel
theorem dX7_instructions_61 : decode cX7_instructions 61 = .ok (.iload 5, 2) := by decide +kernel
theorem dX7_instructions_63 : decode cX7_instructions 63 = .ok (.invokestatic 108, 3) := by decide +kernel
theorem dX7_instructions_66 : decode cX7_instructions 66 = .ok (.ifCond .eq 9, 3) := by decide +kernel
theorem dX7_instructions_69 : decode cX7_instructions 69 = .ok (.iload_n 2, 1) := by decide +kernel
theorem dX7_instructions_70 : decode cX7_instructions 70 = .ok (.iconst 1, 1) := by decide +kernel
theorem dX7_instructions_71 : decode cX7_instructions 71 = .ok (.iadd, 1) := by decide +kernel
theorem dX7_instructions_72 : decode cX7_instructions 72 = .ok (.goto 4, 3) := by decide +kernel
theorem dX7_instructions_75 : decode cX7_instructions 75 = .ok (.iload_n 2, 1) := by decide +kernel
theorem dX7_instructions_76 : decode cX7_instructions 76 = .ok (.istore_n 2, 1) := by decide +kernel
theorem dX7_instructions_77 : decode cX7_instructions 77 = .ok (.iinc 4 1, 3) := by decide +kernel
theorem dX7_instructions_80 : decode cX7_instructions 80 = .ok (.goto (-68), 3) := by decide +kernel
theorem dX7_instructions_83 : decode cX7_instructions 83 = .ok (.iinc 3 1, 3) := by decide +kernel
theorem dX7_instructions_86 : decode cX7_instructions 86 = .ok (.goto (-82), 3) := by decide +kernel
theorem dX7_instructions_89 : decode cX7_instructions 89 = .ok (.iload_n 2, 1) := by decide +kernel
theorem dX7_instructions_90 : decode cX7_instructions 90 = .ok (.ireturn, 1) := by decide +kernel
set_option maxRecDepth 20000 in
theorem ggX7_add_X7_in : GoodIn wsX7_add wsX7_in := goodIn_r _ [7] (by decide +kernel) (by decide +kernel)
set_option maxRecDepth 20000 in
theorem gX7_add_X7_in : GoodIn wsX7_add (va_wsS RX7 96 yX7_in wsX7_in) := goodIn_app (goodIn_of _ (by decide +kernel)) ggX7_add_X7_in
set_option maxRecDepth 20000 in
theorem ggX7_add_X7_isGood : GoodIn wsX7_add wsX7_isGood := goodIn_r _ [10, 11, 12, 6, 13, 4, 5, 7, 14, 15, 16] (by decide +kernel) (by decide +kernel)
set_option maxRecDepth 20000 in
theorem gX7_add_X7_isGood : GoodIn wsX7_add (va_wsS RX7 111 yX7_isGood wsX7_isGood) := goodIn_app (goodIn_of _ (by decide +kernel)) ggX7_add_X7_isGood
set_option maxRecDepth 20000 in
theorem ggX7_add_X7_instructions : GoodIn wsX7_add wsX7_instructions := goodIn_r _ [20, 1, 2, 21, 22, 6, 23, 27, 28, 29, 30, 31, 32, 33, 34, 35, 36, 37, 38, 39, 40, 41, 42, 43, 44, 45, 46, 47, 48, 49, 50, 51, 52, 53, 54, 55, 56, 57, 58, 59, 60, 61] (by decide +kernel) (by decide +kernel)
set_option maxRecDepth 20000 in
theorem gX7_add_X7_instructions : GoodIn wsX7_add (wsV RX7 115 RX7 yX7_instructions wsX7_instructions) := goodIn_app (goodIn_of _ (by decide +kernel)) ggX7_add_X7_instructions
set_option maxRecDepth 20000 in
theorem ggX7_add_X7_isReading : GoodIn wsX7_add wsX7_isReading := goodIn_r _ [23] (by decide +kernel) (by decide +kernel)
set_option maxRecDepth 20000 in
theorem gX7_add_X7_isReading : GoodIn wsX7_add (va_wsS RX7 108 yX7_isReading wsX7_isReading) := goodIn_app (goodIn_of _ (by decide +kernel)) ggX7_add_X7_isReading
set_option maxRecDepth 20000 in
theorem ggX7_add_X7_numbersOf : GoodIn wsX7_add wsX7_numbersOf := goodIn_r _ [26] (by decide +kernel) (by decide +kernel)
set_option maxRecDepth 20000 in
theorem gX7_add_X7_numbersOf : GoodIn wsX7_add (va_wsS RX7 119 yX7_numbersOf wsX7_numbersOf) := goodIn_app (goodIn_of _ (by decide +kernel)) ggX7_add_X7_numbersOf
theorem dX7_add_0 : decode cX7_add 0 = .ok (.iload_n 1, 1) := by decide +kernel
theorem dX7_add_1 : decode cX7_add 1 = .ok (.iconst 0, 1) := by decide +kernel
theorem dX7_add_2 : decode cX7_add 2 = .ok (.iconst 3, 1) := by decide +kernel
theorem dX7_add_3 : decode cX7_add 3 = .ok (.invokestatic 96, 3) := by decide +kernel
theorem dX7_add_6 : decode cX7_add 6 = .ok (.ifCond .eq 19, 3) := by decide +kernel
theorem dX7_add_9 : decode cX7_add 9 = .ok (.iload_n 2, 1) := by decide +kernel
theorem dX7_add_10 : decode cX7_add 10 = .ok (.iload_n 3, 1) := by decide +kernel
theorem dX7_add_11 : decode cX7_add 11 = .ok (.iload 4, 2) := by decide +kernel
theorem dX7_add_13 : decode cX7_add 13 = .ok (.iload 5, 2) := by decide +kernel
theorem dX7_add_15 : decode cX7_add 15 = .ok (.iload 6, 2) := by decide +kernel
theorem dX7_add_17 : decode cX7_add 17 = .ok (.iload 7, 2) := by decide +kernel
theorem dX7_add_19 : decode cX7_add 19 = .ok (.invokestatic 111, 3) := by decide +kernel
theorem dX7_add_22 : decode cX7_add 22 = .ok (.ifCond .ne 6, 3) := by decide +kernel
theorem dX7_add_25 : decode cX7_add 25 = .ok (.bipush (-2), 2) := by decide +kernel
theorem dX7_add_27 : decode cX7_add 27 = .ok (.ireturn, 1) := by decide +kernel
theorem dX7_add_28 : decode cX7_add 28 = .ok (.aload_n 0, 1) := by decide +kernel
theorem dX7_add_29 : decode cX7_add 29 = .ok (.getfield 13, 3) := by decide +kernel
theorem dX7_add_32 : decode cX7_add 32 = .ok (.iload_n 1, 1) := by decide +kernel
theorem dX7_add_33 : decode cX7_add 33 = .ok (.iaload, 1) := by decide +kernel
theorem dX7_add_34 : decode cX7_add 34 = .ok (.istore 8, 2) := by decide +kernel
theorem dX7_add_36 : decode cX7_add 36 = .ok (.iload 8, 2) := by decide +kernel
theorem dX7_add_38 : decode cX7_add 38 = .ok (.bipush 6, 2) := by decide +kernel
theorem dX7_add_40 : decode cX7_add 40 = .ok (.if_icmp .eq 35, 3) := by decide +kernel
theorem dX7_add_43 : decode cX7_add 43 = .ok (.iload_n 2, 1) := by decide +kernel
theorem dX7_add_44 : decode cX7_add 44 = .ok (.bipush 6, 2) := by decide +kernel
theorem dX7_add_46 : decode cX7_add 46 = .ok (.if_icmp .ge 13, 3) := by decide +kernel
theorem dX7_add_49 : decode cX7_add 49 = .ok (.aload_n 0, 1) := by decide +kernel
theorem dX7_add_50 : decode cX7_add 50 = .ok (.iconst 1, 1) := by decide +kernel
theorem dX7_add_51 : decode cX7_add 51 = .ok (.invokevirtual 115, 3) := by decide +kernel
theorem dX7_add_54 : decode cX7_add 54 = .ok (.bipush 6, 2) := by decide +kernel
theorem dX7_add_56 : decode cX7_add 56 = .ok (.if_icmp .eq 19, 3) := by decide +kernel
theorem dX7_add_59 : decode cX7_add 59 = .ok (.iload_n 2, 1) := by decide +kernel
theorem dX7_add_60 : decode cX7_add 60 = .ok (.invokestatic 108, 3) := by decide +kernel
theorem dX7_add_63 : decode cX7_add 63 = .ok (.ifCond .eq 15, 3) := by decide +kernel
theorem dX7_add_66 : decode cX7_add 66 = .ok (.aload_n 0, 1) := by decide +kernel
theorem dX7_add_67 : decode cX7_add 67 = .ok (.iconst 2, 1) := by decide +kernel
theorem dX7_add_68 : decode cX7_add 68 = .ok (.invokevirtual 115, 3) := by decide +kernel
theorem dX7_add_71 : decode cX7_add 71 = .ok (.iconst 4, 1) := by decide +kernel
theorem dX7_add_72 : decode cX7_add 72 = .ok (.if_icmp .ne 6, 3) := by decide +kernel
theorem dX7_add_75 : decode cX7_add 75 = .ok (.bipush (-3), 2) := by decide +kernel
theorem dX7_add_77 : decode cX7_add 77 = .ok (.ireturn, 1) := by decide +kernel
theorem dX7_add_78 : decode cX7_add 78 = .ok (.bipush 36, 2) := by decide +kernel
theorem dX7_add_80 : decode cX7_add 80 = .ok (.iload_n 1, 1) := by decide +kernel
theorem dX7_add_81 : decode cX7_add 81 = .ok (.imul, 1) := by decide +kernel
theorem dX7_add_82 : decode cX7_add 82 = .ok (.bipush 6, 2) := by decide +kernel
theorem dX7_add_84 : decode cX7_add 84 = .ok (.iload 8, 2) := by decide +kernel
theorem dX7_add_86 : decode cX7_add 86 = .ok (.imul, 1) := by decide +kernel
theorem dX7_add_87 : decode cX7_add 87 = .ok (.iadd, 1) := by decide +kernel
theorem dX7_add_88 : decode cX7_add 88 = .ok (.istore 9, 2) := by decide +kernel
theorem dX7_add_90 : decode cX7_add 90 = .ok (.iload_n 2, 1) := by decide +kernel
theorem dX7_add_91 : decode cX7_add 91 = .ok (.invokestatic 119, 3) := by decide +kernel
theorem dX7_add_94 : decode cX7_add 94 = .ok (.istore 10, 2) := by decide +kernel
theorem dX7_add_96 : decode cX7_add 96 = .ok (.aload_n 0, 1) := by decide +kernel
theorem dX7_add_97 : decode cX7_add 97 = .ok (.getfield 7, 3) := by decide +kernel
theorem dX7_add_100 : decode cX7_add 100 = .ok (.iload 9, 2) := by decide +kernel
theorem dX7_add_102 : decode cX7_add 102 = .ok (.iload_n 2, 1) := by decide +kernel
theorem dX7_add_103 : decode cX7_add 103 = .ok (.iastore, 1) := by decide +kernel
theorem dX7_add_104 : decode cX7_add 104 = .ok (.aload_n 0, 1) := by decide +kernel
theorem dX7_add_105 : decode cX7_add 105 = .ok (.getfield 7, 3) := by decide +kernel
theorem dX7_add_108 : decode cX7_add 108 = .ok (.iload 9, 2) := by decide +kernel
theorem dX7_add_110 : decode cX7_add 110 = .ok (.iconst 1, 1) := by decide +kernel
theorem dX7_add_111 : decode cX7_add 111 = .ok (.iadd, 1) := by decide +kernel
theorem dX7_add_112 : decode cX7_add 112 = .ok (.iload_n 3, 1) := by decide +kernel
theorem dX7_add_113 : decode cX7_add 113 = .ok (.iastore, 1) := by decide +kernel
theorem dX7_add_114 : decode cX7_add 114 = .ok (.aload_n 0, 1) := by decide +kernel
theorem dX7_add_115 : decode cX7_add 115 = .ok (.getfield 7, 3) := by decide +kernel
theorem dX7_add_118 : decode cX7_add 118 = .ok (.iload 9, 2) := by decide +kernel
theorem dX7_add_120 : decode cX7_add 120 = .ok (.iconst 2, 1) := by decide +kernel
theorem dX7_add_121 : decode cX7_add 121 = .ok (.iadd, 1) := by decide +kernel
theorem dX7_add_122 : decode cX7_add 122 = .ok (.iload 4, 2) := by decide +kernel
theorem dX7_add_124 : decode cX7_add 124 = .ok (.iastore, 1) := by decide +kernel
theorem dX7_add_125 : decode cX7_add 125 = .ok (.aload_n 0, 1) := by decide +kernel
theorem dX7_add_126 : decode cX7_add 126 = .ok (.getfield 7, 3) := by decide +kernel
theorem dX7_add_129 : decode cX7_add 129 = .ok (.iload 9, 2) := by decide +kernel
theorem dX7_add_131 : decode cX7_add 131 = .ok (.iconst 3, 1) := by decide +kernel
theorem dX7_add_132 : decode cX7_add 132 = .ok (.iadd, 1) := by decide +kernel
theorem dX7_add_133 : decode cX7_add 133 = .ok (.iload 10, 2) := by decide +kernel
theorem dX7_add_135 : decode cX7_add 135 = .ok (.iconst 2, 1) := by decide +kernel
theorem dX7_add_136 : decode cX7_add 136 = .ok (.if_icmp .le 8, 3) := by decide +kernel
theorem dX7_add_139 : decode cX7_add 139 = .ok (.iload 5, 2) := by decide +kernel
theorem dX7_add_141 : decode cX7_add 141 = .ok (.goto 4, 3) := by decide +kernel
theorem dX7_add_144 : decode cX7_add 144 = .ok (.iconst 0, 1) := by decide +kernel
theorem dX7_add_145 : decode cX7_add 145 = .ok (.iastore, 1) := by decide +kernel
theorem dX7_add_146 : decode cX7_add 146 = .ok (.aload_n 0, 1) := by decide +kernel
theorem dX7_add_147 : decode cX7_add 147 = .ok (.getfield 7, 3) := by decide +kernel
theorem dX7_add_150 : decode cX7_add 150 = .ok (.iload 9, 2) := by decide +kernel
theorem dX7_add_152 : decode cX7_add 152 = .ok (.iconst 4, 1) := by decide +kernel
theorem dX7_add_153 : decode cX7_add 153 = .ok (.iadd, 1) := by decide +kernel
theorem dX7_add_154 : decode cX7_add 154 = .ok (.iload 10, 2) := by decide +kernel
theorem dX7_add_156 : decode cX7_add 156 = .ok (.iconst 3, 1) := by decide +kernel
theorem dX7_add_157 : decode cX7_add 157 = .ok (.if_icmp .le 8, 3) := by decide +kernel
theorem dX7_add_160 : decode cX7_add 160 = .ok (.iload 6, 2) := by decide +kernel
theorem dX7_add_162 : decode cX7_add 162 = .ok (.goto 4, 3) := by decide +kernel
theorem dX7_add_165 : decode cX7_add 165 = .ok (.iconst 0, 1) := by decide +kernel
theorem dX7_add_166 : decode cX7_add 166 = .ok (.iastore, 1) := by decide +kernel
theorem dX7_add_167 : decode cX7_add 167 = .ok (.aload_n 0, 1) := by decide +kernel
theorem dX7_add_168 : decode cX7_add 168 = .ok (.getfield 7, 3) := by decide +kernel
theorem dX7_add_171 : decode cX7_add 171 = .ok (.iload 9, 2) := by decide +kernel
theorem dX7_add_173 : decode cX7_add 173 = .ok (.iconst 5, 1) := by decide +kernel
theorem dX7_add_174 : decode cX7_add 174 = .ok (.iadd, 1) := by decide +kernel
theorem dX7_add_175 : decode cX7_add 175 = .ok (.iload 10, 2) := by decide +kernel
theorem dX7_add_177 : decode cX7_add 177 = .ok (.iconst 4, 1) := by decide +kernel
theorem dX7_add_178 : decode cX7_add 178 = .ok (.if_icmp .le 8, 3) := by decide +kernel
theorem dX7_add_181 : decode cX7_add 181 = .ok (.iload 7, 2) := by decide +kernel
theorem dX7_add_183 : decode cX7_add 183 = .ok (.goto 4, 3) := by decide +kernel
theorem dX7_add_186 : decode cX7_add 186 = .ok (.iconst 0, 1) := by decide +kernel
theorem dX7_add_187 : decode cX7_add 187 = .ok (.iastore, 1) := by decide +kernel
theorem dX7_add_188 : decode cX7_add 188 = .ok (.aload_n 0, 1) := by decide +kernel
theorem dX7_add_189 : decode cX7_add 189 = .ok (.getfield 13, 3) := by decide +kernel
theorem dX7_add_192 : decode cX7_add 192 = .ok (.iload_n 1, 1) := by decide +kernel
theorem dX7_add_193 : decode cX7_add 193 = .ok (.dup2, 1) := by decide +kernel
theorem dX7_add_194 : decode cX7_add 194 = .ok (.iaload, 1) := by decide +kernel
theorem dX7_add_195 : decode cX7_add 195 = .ok (.iconst 1, 1) := by decide +kernel
theorem dX7_add_196 : decode cX7_add 196 = .ok (.iadd, 1) := by decide +kernel
theorem dX7_add_197 : decode cX7_add 197 = .ok (.iastore, 1) := by decide +kernel
theorem dX7_add_198 : decode cX7_add 198 = .ok (.aload_n 0, 1) := by decide +kernel
theorem dX7_add_199 : decode cX7_add 199 = .ok (.iconst 0, 1) := by decide +kernel
theorem dX7_add_200 : decode cX7_add 200 = .ok (.putfield 92, 3) := by decide +kernel
theorem dX7_add_203 : decode cX7_add 203 = .ok (.iload 8, 2) := by decide +kernel
theorem dX7_add_205 : decode cX7_add 205 = .ok (.ireturn, 1) := by decide +kernel
theorem dX7_choose_0 : decode cX7_choose 0 = .ok (.aload_n 0, 1) := by decide +kernel
theorem dX7_choose_1 : decode cX7_choose 1 = .ok (.getfield 122, 3) := by decide +kernel
theorem dX7_choose_4 : decode cX7_choose 4 = .ok (.aload_n 0, 1) := by decide +kernel
theorem dX7_choose_5 : decode cX7_choose 5 = .ok (.getfield 125, 3) := by decide +kernel
theorem dX7_choose_8 : decode cX7_choose 8 = .ok (.if_icmp .ne 33, 3) := by decide +kernel
theorem dX7_choose_11 : decode cX7_choose 11 = .ok (.aload_n 0, 1) := by decide +kernel
theorem dX7_choose_12 : decode cX7_choose 12 = .ok (.getfield 21, 3) := by decide +kernel
theorem dX7_choose_15 : decode cX7_choose 15 = .ok (.aload_n 0, 1) := by decide +kernel
theorem dX7_choose_16 : decode cX7_choose 16 = .ok (.getfield 125, 3) := by decide +kernel
theorem dX7_choose_19 : decode cX7_choose 19 = .ok (.iconst 0, 1) := by decide +kernel
theorem dX7_choose_20 : decode cX7_choose 20 = .ok (.iastore, 1) := by decide +kernel
theorem dX7_choose_21 : decode cX7_choose 21 = .ok (.aload_n 0, 1) := by decide +kernel
theorem dX7_choose_22 : decode cX7_choose 22 = .ok (.getfield 24, 3) := by decide +kernel
theorem dX7_choose_25 : decode cX7_choose 25 = .ok (.aload_n 0, 1) := by decide +kernel
theorem dX7_choose_26 : decode cX7_choose 26 = .ok (.getfield 125, 3) := by decide +kernel
theorem dX7_choose_29 : decode cX7_choose 29 = .ok (.iload_n 1, 1) := by decide +kernel
theorem dX7_choose_30 : decode cX7_choose 30 = .ok (.iastore, 1) := by decide +kernel
theorem dX7_choose_31 : decode cX7_choose 31 = .ok (.aload_n 0, 1) := by decide +kernel
theorem dX7_choose_32 : decode cX7_choose 32 = .ok (.dup, 1) := by decide +kernel
theorem dX7_choose_33 : decode cX7_choose 33 = .ok (.getfield 125, 3) := by decide +kernel
theorem dX7_choose_36 : decode cX7_choose 36 = .ok (.iconst 1, 1) := by decide +kernel
theorem dX7_choose_37 : decode cX7_choose 37 = .ok (.iadd, 1) := by decide +kernel
theorem dX7_choose_38 : decode cX7_choose 38 = .ok (.putfield 125, 3) := by decide +kernel
theorem dX7_choose_41 : decode cX7_choose 41 = .ok (.aload_n 0, 1) := by decide +kernel
theorem dX7_choose_42 : decode cX7_choose 42 = .ok (.dup, 1) := by decide +kernel
theorem dX7_choose_43 : decode cX7_choose 43 = .ok (.getfield 122, 3) := by decide +kernel
theorem dX7_choose_46 : decode cX7_choose 46 = .ok (.iconst 1, 1) := by decide +kernel
theorem dX7_choose_47 : decode cX7_choose 47 = .ok (.iadd, 1) := by decide +kernel
theorem dX7_choose_48 : decode cX7_choose 48 = .ok (.putfield 122, 3) := by decide +kernel
theorem dX7_choose_51 : decode cX7_choose 51 = .ok (.aload_n 0, 1) := by decide +kernel
theorem dX7_choose_52 : decode cX7_choose 52 = .ok (.getfield 21, 3) := by decide +kernel
theorem dX7_choose_55 : decode cX7_choose 55 = .ok (.aload_n 0, 1) := by decide +kernel
theorem dX7_choose_56 : decode cX7_choose 56 = .ok (.getfield 122, 3) := by decide +kernel
theorem dX7_choose_59 : decode cX7_choose 59 = .ok (.iconst 1, 1) := by decide +kernel
theorem dX7_choose_60 : decode cX7_choose 60 = .ok (.isub, 1) := by decide +kernel
theorem dX7_choose_61 : decode cX7_choose 61 = .ok (.iaload, 1) := by decide +kernel
theorem dX7_choose_62 : decode cX7_choose 62 = .ok (.ireturn, 1) := by decide +kernel
theorem dX7_nextWay_0 : decode cX7_nextWay 0 = .ok (.aload_n 0, 1) := by decide +kernel
theorem dX7_nextWay_1 : decode cX7_nextWay 1 = .ok (.getfield 125, 3) := by decide +kernel
theorem dX7_nextWay_4 : decode cX7_nextWay 4 = .ok (.ifCond .le 43, 3) := by decide +kernel
theorem dX7_nextWay_7 : decode cX7_nextWay 7 = .ok (.aload_n 0, 1) := by decide +kernel
theorem dX7_nextWay_8 : decode cX7_nextWay 8 = .ok (.getfield 21, 3) := by decide +kernel
theorem dX7_nextWay_11 : decode cX7_nextWay 11 = .ok (.aload_n 0, 1) := by decide +kernel
theorem dX7_nextWay_12 : decode cX7_nextWay 12 = .ok (.getfield 125, 3) := by decide +kernel
theorem dX7_nextWay_15 : decode cX7_nextWay 15 = .ok (.iconst 1, 1) := by decide +kernel
theorem dX7_nextWay_16 : decode cX7_nextWay 16 = .ok (.isub, 1) := by decide +kernel
theorem dX7_nextWay_17 : decode cX7_nextWay 17 = .ok (.iaload, 1) := by decide +kernel
theorem dX7_nextWay_18 : decode cX7_nextWay 18 = .ok (.aload_n 0, 1) := by decide +kernel
theorem dX7_nextWay_19 : decode cX7_nextWay 19 = .ok (.getfield 24, 3) := by decide +kernel
theorem dX7_nextWay_22 : decode cX7_nextWay 22 = .ok (.aload_n 0, 1) := by decide +kernel
theorem dX7_nextWay_23 : decode cX7_nextWay 23 = .ok (.getfield 125, 3) := by decide +kernel
theorem dX7_nextWay_26 : decode cX7_nextWay 26 = .ok (.iconst 1, 1) := by decide +kernel
theorem dX7_nextWay_27 : decode cX7_nextWay 27 = .ok (.isub, 1) := by decide +kernel
theorem dX7_nextWay_28 : decode cX7_nextWay 28 = .ok (.iaload, 1) := by decide +kernel
theorem dX7_nextWay_29 : decode cX7_nextWay 29 = .ok (.iconst 1, 1) := by decide +kernel
theorem dX7_nextWay_30 : decode cX7_nextWay 30 = .ok (.isub, 1) := by decide +kernel
theorem dX7_nextWay_31 : decode cX7_nextWay 31 = .ok (.if_icmp .ne 16, 3) := by decide +kernel
theorem dX7_nextWay_34 : decode cX7_nextWay 34 = .ok (.aload_n 0, 1) := by decide +kernel
theorem dX7_nextWay_35 : decode cX7_nextWay 35 = .ok (.dup, 1) := by decide +kernel
theorem dX7_nextWay_36 : decode cX7_nextWay 36 = .ok (.getfield 125, 3) := by decide +kernel
theorem dX7_nextWay_39 : decode cX7_nextWay 39 = .ok (.iconst 1, 1) := by decide +kernel
theorem dX7_nextWay_40 : decode cX7_nextWay 40 = .ok (.isub, 1) := by decide +kernel
theorem dX7_nextWay_41 : decode cX7_nextWay 41 = .ok (.putfield 125, 3) := by decide +kernel
theorem dX7_nextWay_44 : decode cX7_nextWay 44 = .ok (.goto (-44), 3) := by decide +kernel
theorem dX7_nextWay_47 : decode cX7_nextWay 47 = .ok (.aload_n 0, 1) := by decide +kernel
theorem dX7_nextWay_48 : decode cX7_nextWay 48 = .ok (.getfield 125, 3) := by decide +kernel
theorem dX7_nextWay_51 : decode cX7_nextWay 51 = .ok (.ifCond .ne 5, 3) := by decide +kernel
theorem dX7_nextWay_54 : decode cX7_nextWay 54 = .ok (.iconst 0, 1) := by decide +kernel
theorem dX7_nextWay_55 : decode cX7_nextWay 55 = .ok (.ireturn, 1) := by decide +kernel
theorem dX7_nextWay_56 : decode cX7_nextWay 56 = .ok (.aload_n 0, 1) := by decide +kernel
theorem dX7_nextWay_57 : decode cX7_nextWay 57 = .ok (.getfield 21, 3) := by decide +kernel
theorem dX7_nextWay_60 : decode cX7_nextWay 60 = .ok (.aload_n 0, 1) := by decide +kernel
theorem dX7_nextWay_61 : decode cX7_nextWay 61 = .ok (.getfield 125, 3) := by decide +kernel
theorem dX7_nextWay_64 : decode cX7_nextWay 64 = .ok (.iconst 1, 1) := by decide +kernel
theorem dX7_nextWay_65 : decode cX7_nextWay 65 = .ok (.isub, 1) := by decide +kernel
theorem dX7_nextWay_66 : decode cX7_nextWay 66 = .ok (.dup2, 1) := by decide +kernel
theorem dX7_nextWay_67 : decode cX7_nextWay 67 = .ok (.iaload, 1) := by decide +kernel
theorem dX7_nextWay_68 : decode cX7_nextWay 68 = .ok (.iconst 1, 1) := by decide +kernel
theorem dX7_nextWay_69 : decode cX7_nextWay 69 = .ok (.iadd, 1) := by decide +kernel
theorem dX7_nextWay_70 : decode cX7_nextWay 70 = .ok (.iastore, 1) := by decide +kernel
theorem dX7_nextWay_71 : decode cX7_nextWay 71 = .ok (.iconst 1, 1) := by decide +kernel
theorem dX7_nextWay_72 : decode cX7_nextWay 72 = .ok (.ireturn, 1) := by decide +kernel
set_option maxRecDepth 20000 in
theorem ggX7_doWay_X7_doHart : GoodIn wsX7_doWay wsX7_doHart := goodIn_r _ [10, 11, 12, 13, 14, 15, 3, 16, 2, 17, 18, 4, 5, 19, 20, 21, 9, 22, 23, 24, 25, 26, 27, 28, 29, 30, 31, 32, 33, 34, 35, 36, 1, 37, 38, 39, 40, 41, 42, 43, 44, 45, 46, 47, 48, 49, 50, 51, 52, 53, 54, 55, 56, 57, 58, 59, 60, 61, 62, 63, 64, 65, 66, 67, 68, 69, 70, 71, 72, 73, 74, 75, 76, 77, 78, 79, 80] (by decide +kernel) (by decide +kernel)
set_option maxRecDepth 20000 in
theorem gX7_doWay_X7_doHart : GoodIn wsX7_doWay (wsV RX7 134 RX7 yX7_doHart wsX7_doHart) := goodIn_app (goodIn_of _ (by decide +kernel)) ggX7_doWay_X7_doHart
theorem dX7_doWay_0 : decode cX7_doWay 0 = .ok (.aload_n 0, 1) := by decide +kernel
theorem dX7_doWay_1 : decode cX7_doWay 1 = .ok (.iconst 0, 1) := by decide +kernel
theorem dX7_doWay_2 : decode cX7_doWay 2 = .ok (.putfield 122, 3) := by decide +kernel
theorem dX7_doWay_5 : decode cX7_doWay 5 = .ok (.aload_n 0, 1) := by decide +kernel
theorem dX7_doWay_6 : decode cX7_doWay 6 = .ok (.iconst 0, 1) := by decide +kernel
theorem dX7_doWay_7 : decode cX7_doWay 7 = .ok (.putfield 128, 3) := by decide +kernel
theorem dX7_doWay_10 : decode cX7_doWay 10 = .ok (.aload_n 0, 1) := by decide +kernel
theorem dX7_doWay_11 : decode cX7_doWay 11 = .ok (.iconst 0, 1) := by decide +kernel
theorem dX7_doWay_12 : decode cX7_doWay 12 = .ok (.putfield 131, 3) := by decide +kernel
theorem dX7_doWay_15 : decode cX7_doWay 15 = .ok (.iconst 0, 1) := by decide +kernel
theorem dX7_doWay_16 : decode cX7_doWay 16 = .ok (.istore_n 1, 1) := by decide +kernel
theorem dX7_doWay_17 : decode cX7_doWay 17 = .ok (.iload_n 1, 1) := by decide +kernel
theorem dX7_doWay_18 : decode cX7_doWay 18 = .ok (.bipush 16, 2) := by decide +kernel
theorem dX7_doWay_20 : decode cX7_doWay 20 = .ok (.if_icmp .ge 23, 3) := by decide +kernel
theorem dX7_doWay_23 : decode cX7_doWay 23 = .ok (.aload_n 0, 1) := by decide +kernel
theorem dX7_doWay_24 : decode cX7_doWay 24 = .ok (.getfield 27, 3) := by decide +kernel
theorem dX7_doWay_27 : decode cX7_doWay 27 = .ok (.iload_n 1, 1) := by decide +kernel
theorem dX7_doWay_28 : decode cX7_doWay 28 = .ok (.iconst 0, 1) := by decide +kernel
theorem dX7_doWay_29 : decode cX7_doWay 29 = .ok (.iastore, 1) := by decide +kernel
theorem dX7_doWay_30 : decode cX7_doWay 30 = .ok (.aload_n 0, 1) := by decide +kernel
theorem dX7_doWay_31 : decode cX7_doWay 31 = .ok (.getfield 30, 3) := by decide +kernel
theorem dX7_doWay_34 : decode cX7_doWay 34 = .ok (.iload_n 1, 1) := by decide +kernel
theorem dX7_doWay_35 : decode cX7_doWay 35 = .ok (.iconst 0, 1) := by decide +kernel
theorem dX7_doWay_36 : decode cX7_doWay 36 = .ok (.iastore, 1) := by decide +kernel
theorem dX7_doWay_37 : decode cX7_doWay 37 = .ok (.iinc 1 1, 3) := by decide +kernel
theorem dX7_doWay_40 : decode cX7_doWay 40 = .ok (.goto (-23), 3) := by decide +kernel
theorem dX7_doWay_43 : decode cX7_doWay 43 = .ok (.iconst 0, 1) := by decide +kernel
theorem dX7_doWay_44 : decode cX7_doWay 44 = .ok (.istore_n 1, 1) := by decide +kernel
theorem dX7_doWay_45 : decode cX7_doWay 45 = .ok (.iload_n 1, 1) := by decide +kernel
theorem dX7_doWay_46 : decode cX7_doWay 46 = .ok (.iconst 4, 1) := by decide +kernel
theorem dX7_doWay_47 : decode cX7_doWay 47 = .ok (.if_icmp .ge 14, 3) := by decide +kernel
theorem dX7_doWay_50 : decode cX7_doWay 50 = .ok (.aload_n 0, 1) := by decide +kernel
theorem dX7_doWay_51 : decode cX7_doWay 51 = .ok (.iload_n 1, 1) := by decide +kernel
theorem dX7_doWay_52 : decode cX7_doWay 52 = .ok (.invokevirtual 134, 3) := by decide +kernel
theorem dX7_doWay_55 : decode cX7_doWay 55 = .ok (.iinc 1 1, 3) := by decide +kernel
theorem dX7_doWay_58 : decode cX7_doWay 58 = .ok (.goto (-13), 3) := by decide +kernel
theorem dX7_doWay_61 : decode cX7_doWay 61 = .ok (.return_, 1) := by decide +kernel
set_option maxRecDepth 20000 in
theorem ggX7_doHart_X7_access : GoodIn wsX7_doHart wsX7_access := goodIn_r _ [17, 4, 11, 2, 18, 12, 19, 8, 20, 21, 22, 23, 24, 1, 25, 26, 27, 28, 29, 30, 16, 31, 32, 33, 34, 35, 36, 37, 38, 39, 40, 41, 42, 43, 44, 45, 46, 47, 48, 49, 50, 51, 52, 53, 54, 55, 56, 57, 58, 59, 60, 61, 62, 63, 64, 65, 66, 67, 68, 69, 70, 71, 72, 73, 74, 75, 76] (by decide +kernel) (by decide +kernel)
set_option maxRecDepth 20000 in
theorem gX7_doHart_X7_access : GoodIn wsX7_doHart (wsV RX7 144 RX7 yX7_access wsX7_access) := goodIn_app (goodIn_of _ (by decide +kernel)) ggX7_doHart_X7_access
theorem dX7_doHart_0 : decode cX7_doHart 0 = .ok (.aload_n 0, 1) := by decide +kernel
theorem dX7_doHart_1 : decode cX7_doHart 1 = .ok (.iconst 0, 1) := by decide +kernel
theorem dX7_doHart_2 : decode cX7_doHart 2 = .ok (.putfield 138, 3) := by decide +kernel
theorem dX7_doHart_5 : decode cX7_doHart 5 = .ok (.aload_n 0, 1) := by decide +kernel
theorem dX7_doHart_6 : decode cX7_doHart 6 = .ok (.iconst (-1), 1) := by decide +kernel
theorem dX7_doHart_7 : decode cX7_doHart 7 = .ok (.putfield 141, 3) := by decide +kernel
theorem dX7_doHart_10 : decode cX7_doHart 10 = .ok (.iconst 0, 1) := by decide +kernel
theorem dX7_doHart_11 : decode cX7_doHart 11 = .ok (.istore_n 2, 1) := by decide +kernel
theorem dX7_doHart_12 : decode cX7_doHart 12 = .ok (.iload_n 2, 1) := by decide +kernel
theorem dX7_doHart_13 : decode cX7_doHart 13 = .ok (.aload_n 0, 1) := by decide +kernel
theorem dX7_doHart_14 : decode cX7_doHart 14 = .ok (.getfield 13, 3) := by decide +kernel
theorem dX7_doHart_17 : decode cX7_doHart 17 = .ok (.iload_n 1, 1) := by decide +kernel
theorem dX7_doHart_18 : decode cX7_doHart 18 = .ok (.iaload, 1) := by decide +kernel
theorem dX7_doHart_19 : decode cX7_doHart 19 = .ok (.if_icmp .ge 327, 3) := by decide +kernel
theorem dX7_doHart_22 : decode cX7_doHart 22 = .ok (.bipush 36, 2) := by decide +kernel
theorem dX7_doHart_24 : decode cX7_doHart 24 = .ok (.iload_n 1, 1) := by decide +kernel
theorem dX7_doHart_25 : decode cX7_doHart 25 = .ok (.imul, 1) := by decide +kernel
theorem dX7_doHart_26 : decode cX7_doHart 26 = .ok (.bipush 6, 2) := by decide +kernel
theorem dX7_doHart_28 : decode cX7_doHart 28 = .ok (.iload_n 2, 1) := by decide +kernel
theorem dX7_doHart_29 : decode cX7_doHart 29 = .ok (.imul, 1) := by decide +kernel
theorem dX7_doHart_30 : decode cX7_doHart 30 = .ok (.iadd, 1) := by decide +kernel
theorem dX7_doHart_31 : decode cX7_doHart 31 = .ok (.istore_n 3, 1) := by decide +kernel
theorem dX7_doHart_32 : decode cX7_doHart 32 = .ok (.aload_n 0, 1) := by decide +kernel
theorem dX7_doHart_33 : decode cX7_doHart 33 = .ok (.getfield 7, 3) := by decide +kernel
theorem dX7_doHart_36 : decode cX7_doHart 36 = .ok (.iload_n 3, 1) := by decide +kernel
theorem dX7_doHart_37 : decode cX7_doHart 37 = .ok (.iaload, 1) := by decide +kernel
theorem dX7_doHart_38 : decode cX7_doHart 38 = .ok (.istore 4, 2) := by decide +kernel
theorem dX7_doHart_40 : decode cX7_doHart 40 = .ok (.iconst 4, 1) := by decide +kernel
theorem dX7_doHart_41 : decode cX7_doHart 41 = .ok (.iload_n 1, 1) := by decide +kernel
theorem dX7_doHart_42 : decode cX7_doHart 42 = .ok (.imul, 1) := by decide +kernel
theorem dX7_doHart_43 : decode cX7_doHart 43 = .ok (.aload_n 0, 1) := by decide +kernel
theorem dX7_doHart_44 : decode cX7_doHart 44 = .ok (.getfield 7, 3) := by decide +kernel
theorem dX7_doHart_47 : decode cX7_doHart 47 = .ok (.iload_n 3, 1) := by decide +kernel
theorem dX7_doHart_48 : decode cX7_doHart 48 = .ok (.iconst 1, 1) := by decide +kernel
theorem dX7_doHart_49 : decode cX7_doHart 49 = .ok (.iadd, 1) := by decide +kernel
theorem dX7_doHart_50 : decode cX7_doHart 50 = .ok (.iaload, 1) := by decide +kernel
theorem dX7_doHart_51 : decode cX7_doHart 51 = .ok (.iadd, 1) := by decide +kernel
theorem dX7_doHart_52 : decode cX7_doHart 52 = .ok (.istore 5, 2) := by decide +kernel
theorem dX7_doHart_54 : decode cX7_doHart 54 = .ok (.iinc 2 1, 3) := by decide +kernel
theorem dX7_doHart_57 : decode cX7_doHart 57 = .ok (.iload 4, 2) := by decide +kernel
theorem dX7_doHart_59 : decode cX7_doHart 59 = .ok (.bipush 6, 2) := by decide +kernel
theorem dX7_doHart_61 : decode cX7_doHart 61 = .ok (.if_icmp .ge 14, 3) := by decide +kernel
theorem dX7_doHart_64 : decode cX7_doHart 64 = .ok (.aload_n 0, 1) := by decide +kernel
theorem dX7_doHart_65 : decode cX7_doHart 65 = .ok (.iload_n 1, 1) := by decide +kernel
theorem dX7_doHart_66 : decode cX7_doHart 66 = .ok (.iload_n 3, 1) := by decide +kernel
theorem dX7_doHart_67 : decode cX7_doHart 67 = .ok (.iload 4, 2) := by decide +kernel
theorem dX7_doHart_69 : decode cX7_doHart 69 = .ok (.invokevirtual 144, 3) := by decide +kernel
theorem dX7_doHart_72 : decode cX7_doHart 72 = .ok (.goto 271, 3) := by decide +kernel
theorem dX7_doHart_75 : decode cX7_doHart 75 = .ok (.iload 4, 2) := by decide +kernel
theorem dX7_doHart_77 : decode cX7_doHart 77 = .ok (.bipush 6, 2) := by decide +kernel
theorem dX7_doHart_79 : decode cX7_doHart 79 = .ok (.if_icmp .ne 73, 3) := by decide +kernel
theorem dX7_doHart_82 : decode cX7_doHart 82 = .ok (.aload_n 0, 1) := by decide +kernel
theorem dX7_doHart_83 : decode cX7_doHart 83 = .ok (.getfield 63, 3) := by decide +kernel
theorem dX7_doHart_86 : decode cX7_doHart 86 = .ok (.aload_n 0, 1) := by decide +kernel
theorem dX7_doHart_87 : decode cX7_doHart 87 = .ok (.getfield 131, 3) := by decide +kernel
theorem dX7_doHart_90 : decode cX7_doHart 90 = .ok (.iload_n 1, 1) := by decide +kernel
theorem dX7_doHart_91 : decode cX7_doHart 91 = .ok (.iastore, 1) := by decide +kernel
theorem dX7_doHart_92 : decode cX7_doHart 92 = .ok (.aload_n 0, 1) := by decide +kernel
theorem dX7_doHart_93 : decode cX7_doHart 93 = .ok (.getfield 66, 3) := by decide +kernel
theorem dX7_doHart_96 : decode cX7_doHart 96 = .ok (.aload_n 0, 1) := by decide +kernel
theorem dX7_doHart_97 : decode cX7_doHart 97 = .ok (.getfield 131, 3) := by decide +kernel
theorem dX7_doHart_100 : decode cX7_doHart 100 = .ok (.aload_n 0, 1) := by decide +kernel
theorem dX7_doHart_101 : decode cX7_doHart 101 = .ok (.getfield 128, 3) := by decide +kernel
theorem dX7_doHart_104 : decode cX7_doHart 104 = .ok (.iastore, 1) := by decide +kernel
theorem dX7_doHart_105 : decode cX7_doHart 105 = .ok (.aload_n 0, 1) := by decide +kernel
theorem dX7_doHart_106 : decode cX7_doHart 106 = .ok (.getfield 69, 3) := by decide +kernel
theorem dX7_doHart_109 : decode cX7_doHart 109 = .ok (.aload_n 0, 1) := by decide +kernel
theorem dX7_doHart_110 : decode cX7_doHart 110 = .ok (.getfield 131, 3) := by decide +kernel
theorem dX7_doHart_113 : decode cX7_doHart 113 = .ok (.aload_n 0, 1) := by decide +kernel
theorem dX7_doHart_114 : decode cX7_doHart 114 = .ok (.getfield 7, 3) := by decide +kernel
theorem dX7_doHart_117 : decode cX7_doHart 117 = .ok (.iload_n 3, 1) := by decide +kernel
theorem dX7_doHart_118 : decode cX7_doHart 118 = .ok (.iconst 1, 1) := by decide +kernel
theorem dX7_doHart_119 : decode cX7_doHart 119 = .ok (.iadd, 1) := by decide +kernel
theorem dX7_doHart_120 : decode cX7_doHart 120 = .ok (.iaload, 1) := by decide +kernel
theorem dX7_doHart_121 : decode cX7_doHart 121 = .ok (.iastore, 1) := by decide +kernel
theorem dX7_doHart_122 : decode cX7_doHart 122 = .ok (.aload_n 0, 1) := by decide +kernel
theorem dX7_doHart_123 : decode cX7_doHart 123 = .ok (.getfield 72, 3) := by decide +kernel
theorem dX7_doHart_126 : decode cX7_doHart 126 = .ok (.aload_n 0, 1) := by decide +kernel
theorem dX7_doHart_127 : decode cX7_doHart 127 = .ok (.getfield 131, 3) := by decide +kernel
theorem dX7_doHart_130 : decode cX7_doHart 130 = .ok (.aload_n 0, 1) := by decide +kernel
theorem dX7_doHart_131 : decode cX7_doHart 131 = .ok (.getfield 7, 3) := by decide +kernel
theorem dX7_doHart_134 : decode cX7_doHart 134 = .ok (.iload_n 3, 1) := by decide +kernel
theorem dX7_doHart_135 : decode cX7_doHart 135 = .ok (.iconst 2, 1) := by decide +kernel
theorem dX7_doHart_136 : decode cX7_doHart 136 = .ok (.iadd, 1) := by decide +kernel
theorem dX7_doHart_137 : decode cX7_doHart 137 = .ok (.iaload, 1) := by decide +kernel
theorem dX7_doHart_138 : decode cX7_doHart 138 = .ok (.iastore, 1) := by decide +kernel
theorem dX7_doHart_139 : decode cX7_doHart 139 = .ok (.aload_n 0, 1) := by decide +kernel
theorem dX7_doHart_140 : decode cX7_doHart 140 = .ok (.dup, 1) := by decide +kernel
theorem dX7_doHart_141 : decode cX7_doHart 141 = .ok (.getfield 131, 3) := by decide +kernel
theorem dX7_doHart_144 : decode cX7_doHart 144 = .ok (.iconst 1, 1) := by decide +kernel
theorem dX7_doHart_145 : decode cX7_doHart 145 = .ok (.iadd, 1) := by decide +kernel
theorem dX7_doHart_146 : decode cX7_doHart 146 = .ok (.putfield 131, 3) := by decide +kernel
theorem dX7_doHart_149 : decode cX7_doHart 149 = .ok (.goto 194, 3) := by decide +kernel
theorem dX7_doHart_152 : decode cX7_doHart 152 = .ok (.iload 4, 2) := by decide +kernel
theorem dX7_doHart_154 : decode cX7_doHart 154 = .ok (.bipush 7, 2) := by decide +kernel
theorem dX7_doHart_156 : decode cX7_doHart 156 = .ok (.if_icmp .ne 29, 3) := by decide +kernel
theorem dX7_doHart_159 : decode cX7_doHart 159 = .ok (.aload_n 0, 1) := by decide +kernel
theorem dX7_doHart_160 : decode cX7_doHart 160 = .ok (.getfield 27, 3) := by decide +kernel
theorem dX7_doHart_163 : decode cX7_doHart 163 = .ok (.iload 5, 2) := by decide +kernel
theorem dX7_doHart_165 : decode cX7_doHart 165 = .ok (.aload_n 0, 1) := by decide +kernel
theorem dX7_doHart_166 : decode cX7_doHart 166 = .ok (.getfield 7, 3) := by decide +kernel
theorem dX7_doHart_169 : decode cX7_doHart 169 = .ok (.iload_n 3, 1) := by decide +kernel
theorem dX7_doHart_170 : decode cX7_doHart 170 = .ok (.iconst 2, 1) := by decide +kernel
theorem dX7_doHart_171 : decode cX7_doHart 171 = .ok (.iadd, 1) := by decide +kernel
theorem dX7_doHart_172 : decode cX7_doHart 172 = .ok (.iaload, 1) := by decide +kernel
theorem dX7_doHart_173 : decode cX7_doHart 173 = .ok (.iastore, 1) := by decide +kernel
theorem dX7_doHart_174 : decode cX7_doHart 174 = .ok (.aload_n 0, 1) := by decide +kernel
theorem dX7_doHart_175 : decode cX7_doHart 175 = .ok (.getfield 30, 3) := by decide +kernel
theorem dX7_doHart_178 : decode cX7_doHart 178 = .ok (.iload 5, 2) := by decide +kernel
theorem dX7_doHart_180 : decode cX7_doHart 180 = .ok (.iconst 0, 1) := by decide +kernel
theorem dX7_doHart_181 : decode cX7_doHart 181 = .ok (.iastore, 1) := by decide +kernel
theorem dX7_doHart_182 : decode cX7_doHart 182 = .ok (.goto 161, 3) := by decide +kernel
theorem dX7_doHart_185 : decode cX7_doHart 185 = .ok (.iload 4, 2) := by decide +kernel
theorem dX7_doHart_187 : decode cX7_doHart 187 = .ok (.bipush 10, 2) := by decide +kernel
theorem dX7_doHart_189 : decode cX7_doHart 189 = .ok (.if_icmp .ne 47, 3) := by decide +kernel
theorem dX7_doHart_192 : decode cX7_doHart 192 = .ok (.aload_n 0, 1) := by decide +kernel
theorem dX7_doHart_193 : decode cX7_doHart 193 = .ok (.dup, 1) := by decide +kernel
theorem dX7_doHart_194 : decode cX7_doHart 194 = .ok (.getfield 138, 3) := by decide +kernel
theorem dX7_doHart_197 : decode cX7_doHart 197 = .ok (.aload_n 0, 1) := by decide +kernel
theorem dX7_doHart_198 : decode cX7_doHart 198 = .ok (.getfield 30, 3) := by decide +kernel
theorem dX7_doHart_201 : decode cX7_doHart 201 = .ok (.iload 5, 2) := by decide +kernel
theorem dX7_doHart_203 : decode cX7_doHart 203 = .ok (.iaload, 1) := by decide +kernel
theorem dX7_doHart_204 : decode cX7_doHart 204 = .ok (.ior, 1) := by decide +kernel
theorem dX7_doHart_205 : decode cX7_doHart 205 = .ok (.putfield 138, 3) := by decide +kernel
theorem dX7_doHart_208 : decode cX7_doHart 208 = .ok (.aload_n 0, 1) := by decide +kernel
theorem dX7_doHart_209 : decode cX7_doHart 209 = .ok (.getfield 27, 3) := by decide +kernel
theorem dX7_doHart_212 : decode cX7_doHart 212 = .ok (.iload 5, 2) := by decide +kernel
theorem dX7_doHart_214 : decode cX7_doHart 214 = .ok (.iaload, 1) := by decide +kernel
theorem dX7_doHart_215 : decode cX7_doHart 215 = .ok (.ifCond .ne 16, 3) := by decide +kernel
theorem dX7_doHart_218 : decode cX7_doHart 218 = .ok (.iload_n 2, 1) := by decide +kernel
theorem dX7_doHart_219 : decode cX7_doHart 219 = .ok (.aload_n 0, 1) := by decide +kernel
theorem dX7_doHart_220 : decode cX7_doHart 220 = .ok (.getfield 7, 3) := by decide +kernel
theorem dX7_doHart_223 : decode cX7_doHart 223 = .ok (.iload_n 3, 1) := by decide +kernel
theorem dX7_doHart_224 : decode cX7_doHart 224 = .ok (.iconst 2, 1) := by decide +kernel
theorem dX7_doHart_225 : decode cX7_doHart 225 = .ok (.iadd, 1) := by decide +kernel
theorem dX7_doHart_226 : decode cX7_doHart 226 = .ok (.iaload, 1) := by decide +kernel
theorem dX7_doHart_227 : decode cX7_doHart 227 = .ok (.iadd, 1) := by decide +kernel
theorem dX7_doHart_228 : decode cX7_doHart 228 = .ok (.goto 4, 3) := by decide +kernel
theorem dX7_doHart_231 : decode cX7_doHart 231 = .ok (.iload_n 2, 1) := by decide +kernel
theorem dX7_doHart_232 : decode cX7_doHart 232 = .ok (.istore_n 2, 1) := by decide +kernel
theorem dX7_doHart_233 : decode cX7_doHart 233 = .ok (.goto 110, 3) := by decide +kernel
theorem dX7_doHart_236 : decode cX7_doHart 236 = .ok (.iconst 4, 1) := by decide +kernel
theorem dX7_doHart_237 : decode cX7_doHart 237 = .ok (.iload_n 1, 1) := by decide +kernel
theorem dX7_doHart_238 : decode cX7_doHart 238 = .ok (.imul, 1) := by decide +kernel
theorem dX7_doHart_239 : decode cX7_doHart 239 = .ok (.aload_n 0, 1) := by decide +kernel
theorem dX7_doHart_240 : decode cX7_doHart 240 = .ok (.getfield 7, 3) := by decide +kernel
theorem dX7_doHart_243 : decode cX7_doHart 243 = .ok (.iload_n 3, 1) := by decide +kernel
theorem dX7_doHart_244 : decode cX7_doHart 244 = .ok (.iconst 2, 1) := by decide +kernel
theorem dX7_doHart_245 : decode cX7_doHart 245 = .ok (.iadd, 1) := by decide +kernel
theorem dX7_doHart_246 : decode cX7_doHart 246 = .ok (.iaload, 1) := by decide +kernel
theorem dX7_doHart_247 : decode cX7_doHart 247 = .ok (.iadd, 1) := by decide +kernel
theorem dX7_doHart_248 : decode cX7_doHart 248 = .ok (.istore 6, 2) := by decide +kernel
theorem dX7_doHart_250 : decode cX7_doHart 250 = .ok (.iconst 4, 1) := by decide +kernel
theorem dX7_doHart_251 : decode cX7_doHart 251 = .ok (.iload_n 1, 1) := by decide +kernel
theorem dX7_doHart_252 : decode cX7_doHart 252 = .ok (.imul, 1) := by decide +kernel
theorem dX7_doHart_253 : decode cX7_doHart 253 = .ok (.aload_n 0, 1) := by decide +kernel
theorem dX7_doHart_254 : decode cX7_doHart 254 = .ok (.getfield 7, 3) := by decide +kernel
theorem dX7_doHart_257 : decode cX7_doHart 257 = .ok (.iload_n 3, 1) := by decide +kernel
theorem dX7_doHart_258 : decode cX7_doHart 258 = .ok (.iconst 3, 1) := by decide +kernel
theorem dX7_doHart_259 : decode cX7_doHart 259 = .ok (.iadd, 1) := by decide +kernel
theorem dX7_doHart_260 : decode cX7_doHart 260 = .ok (.iaload, 1) := by decide +kernel
theorem dX7_doHart_261 : decode cX7_doHart 261 = .ok (.iadd, 1) := by decide +kernel
theorem dX7_doHart_262 : decode cX7_doHart 262 = .ok (.istore 7, 2) := by decide +kernel
theorem dX7_doHart_264 : decode cX7_doHart 264 = .ok (.iload 4, 2) := by decide +kernel
theorem dX7_doHart_266 : decode cX7_doHart 266 = .ok (.bipush 8, 2) := by decide +kernel
theorem dX7_doHart_268 : decode cX7_doHart 268 = .ok (.if_icmp .ne 23, 3) := by decide +kernel
theorem dX7_doHart_271 : decode cX7_doHart 271 = .ok (.aload_n 0, 1) := by decide +kernel
theorem dX7_doHart_272 : decode cX7_doHart 272 = .ok (.getfield 27, 3) := by decide +kernel
theorem dX7_doHart_275 : decode cX7_doHart 275 = .ok (.iload 6, 2) := by decide +kernel
theorem dX7_doHart_277 : decode cX7_doHart 277 = .ok (.iaload, 1) := by decide +kernel
theorem dX7_doHart_278 : decode cX7_doHart 278 = .ok (.aload_n 0, 1) := by decide +kernel
theorem dX7_doHart_279 : decode cX7_doHart 279 = .ok (.getfield 27, 3) := by decide +kernel
theorem dX7_doHart_282 : decode cX7_doHart 282 = .ok (.iload 7, 2) := by decide +kernel
theorem dX7_doHart_284 : decode cX7_doHart 284 = .ok (.iaload, 1) := by decide +kernel
theorem dX7_doHart_285 : decode cX7_doHart 285 = .ok (.iadd, 1) := by decide +kernel
theorem dX7_doHart_286 : decode cX7_doHart 286 = .ok (.iconst 3, 1) := by decide +kernel
theorem dX7_doHart_287 : decode cX7_doHart 287 = .ok (.iand, 1) := by decide +kernel
theorem dX7_doHart_288 : decode cX7_doHart 288 = .ok (.goto 18, 3) := by decide +kernel
theorem dX7_doHart_291 : decode cX7_doHart 291 = .ok (.aload_n 0, 1) := by decide +kernel
theorem dX7_doHart_292 : decode cX7_doHart 292 = .ok (.getfield 27, 3) := by decide +kernel
theorem dX7_doHart_295 : decode cX7_doHart 295 = .ok (.iload 6, 2) := by decide +kernel
theorem dX7_doHart_297 : decode cX7_doHart 297 = .ok (.iaload, 1) := by decide +kernel
theorem dX7_doHart_298 : decode cX7_doHart 298 = .ok (.aload_n 0, 1) := by decide +kernel
theorem dX7_doHart_299 : decode cX7_doHart 299 = .ok (.getfield 27, 3) := by decide +kernel
theorem dX7_doHart_302 : decode cX7_doHart 302 = .ok (.iload 7, 2) := by decide +kernel
theorem dX7_doHart_304 : decode cX7_doHart 304 = .ok (.iaload, 1) := by decide +kernel
theorem dX7_doHart_305 : decode cX7_doHart 305 = .ok (.ixor, 1) := by decide +kernel
theorem dX7_doHart_306 : decode cX7_doHart 306 = .ok (.istore 8, 2) := by decide +kernel
theorem dX7_doHart_308 : decode cX7_doHart 308 = .ok (.aload_n 0, 1) := by decide +kernel
theorem dX7_doHart_309 : decode cX7_doHart 309 = .ok (.getfield 30, 3) := by decide +kernel
theorem dX7_doHart_312 : decode cX7_doHart 312 = .ok (.iload 6, 2) := by decide +kernel
theorem dX7_doHart_314 : decode cX7_doHart 314 = .ok (.iaload, 1) := by decide +kernel
theorem dX7_doHart_315 : decode cX7_doHart 315 = .ok (.aload_n 0, 1) := by decide +kernel
theorem dX7_doHart_316 : decode cX7_doHart 316 = .ok (.getfield 30, 3) := by decide +kernel
theorem dX7_doHart_319 : decode cX7_doHart 319 = .ok (.iload 7, 2) := by decide +kernel
theorem dX7_doHart_321 : decode cX7_doHart 321 = .ok (.iaload, 1) := by decide +kernel
theorem dX7_doHart_322 : decode cX7_doHart 322 = .ok (.ior, 1) := by decide +kernel
theorem dX7_doHart_323 : decode cX7_doHart 323 = .ok (.istore 9, 2) := by decide +kernel
theorem dX7_doHart_325 : decode cX7_doHart 325 = .ok (.aload_n 0, 1) := by decide +kernel
theorem dX7_doHart_326 : decode cX7_doHart 326 = .ok (.getfield 27, 3) := by decide +kernel
theorem dX7_doHart_329 : decode cX7_doHart 329 = .ok (.iload 5, 2) := by decide +kernel
theorem dX7_doHart_331 : decode cX7_doHart 331 = .ok (.iload 8, 2) := by decide +kernel
theorem dX7_doHart_333 : decode cX7_doHart 333 = .ok (.iastore, 1) := by decide +kernel
theorem dX7_doHart_334 : decode cX7_doHart 334 = .ok (.aload_n 0, 1) := by decide +kernel
theorem dX7_doHart_335 : decode cX7_doHart 335 = .ok (.getfield 30, 3) := by decide +kernel
theorem dX7_doHart_338 : decode cX7_doHart 338 = .ok (.iload 5, 2) := by decide +kernel
theorem dX7_doHart_340 : decode cX7_doHart 340 = .ok (.iload 9, 2) := by decide +kernel
theorem dX7_doHart_342 : decode cX7_doHart 342 = .ok (.iastore, 1) := by decide +kernel
theorem dX7_doHart_343 : decode cX7_doHart 343 = .ok (.goto (-331), 3) := by decide +kernel
theorem dX7_doHart_346 : decode cX7_doHart 346 = .ok (.return_, 1) := by decide +kernel
set_option maxRecDepth 20000 in
theorem ggX7_access_X7_choose : GoodIn wsX7_access wsX7_choose := goodIn_r _ [21, 22, 23, 24, 25, 32, 33, 34, 35, 36, 37, 38, 39, 40, 41, 42, 43, 44, 45, 46, 47, 48, 49, 50, 51, 52, 53, 54, 55, 56, 57, 58, 59, 60, 61, 62, 63, 64, 65, 66] (by decide +kernel) (by decide +kernel)
set_option maxRecDepth 20000 in
theorem gX7_access_X7_choose : GoodIn wsX7_access (wsV RX7 148 RX7 yX7_choose wsX7_choose) := goodIn_app (goodIn_of _ (by decide +kernel)) ggX7_access_X7_choose
set_option maxRecDepth 20000 in
theorem ggX7_access_X7_isWriting : GoodIn wsX7_access wsX7_isWriting := goodIn_r _ [28] (by decide +kernel) (by decide +kernel)
set_option maxRecDepth 20000 in
theorem gX7_access_X7_isWriting : GoodIn wsX7_access (va_wsS RX7 151 yX7_isWriting wsX7_isWriting) := goodIn_app (goodIn_of _ (by decide +kernel)) ggX7_access_X7_isWriting
set_option maxRecDepth 20000 in
theorem ggX7_access_X7_isReading : GoodIn wsX7_access wsX7_isReading := goodIn_r _ [31] (by decide +kernel) (by decide +kernel)
set_option maxRecDepth 20000 in
theorem gX7_access_X7_isReading : GoodIn wsX7_access (va_wsS RX7 108 yX7_isReading wsX7_isReading) := goodIn_app (goodIn_of _ (by decide +kernel)) ggX7_access_X7_isReading
theorem dX7_access_0 : decode cX7_access 0 = .ok (.iload_n 3, 1) := by decide +kernel
theorem dX7_access_1 : decode cX7_access 1 = .ok (.iconst 2, 1) := by decide +kernel
theorem dX7_access_2 : decode cX7_access 2 = .ok (.if_icmp .eq 13, 3) := by decide +kernel
theorem dX7_access_5 : decode cX7_access 5 = .ok (.iload_n 3, 1) := by decide +kernel
theorem dX7_access_6 : decode cX7_access 6 = .ok (.iconst 3, 1) := by decide +kernel
theorem dX7_access_7 : decode cX7_access 7 = .ok (.if_icmp .eq 8, 3) := by decide +kernel
theorem dX7_access_10 : decode cX7_access 10 = .ok (.iload_n 3, 1) := by decide +kernel
theorem dX7_access_11 : decode cX7_access 11 = .ok (.iconst 5, 1) := by decide +kernel
theorem dX7_access_12 : decode cX7_access 12 = .ok (.if_icmp .ne 7, 3) := by decide +kernel
theorem dX7_access_15 : decode cX7_access 15 = .ok (.iconst 1, 1) := by decide +kernel
theorem dX7_access_16 : decode cX7_access 16 = .ok (.goto 4, 3) := by decide +kernel
theorem dX7_access_19 : decode cX7_access 19 = .ok (.iconst 0, 1) := by decide +kernel
theorem dX7_access_20 : decode cX7_access 20 = .ok (.istore 4, 2) := by decide +kernel
theorem dX7_access_22 : decode cX7_access 22 = .ok (.iconst 4, 1) := by decide +kernel
theorem dX7_access_23 : decode cX7_access 23 = .ok (.iload_n 1, 1) := by decide +kernel
theorem dX7_access_24 : decode cX7_access 24 = .ok (.imul, 1) := by decide +kernel
theorem dX7_access_25 : decode cX7_access 25 = .ok (.aload_n 0, 1) := by decide +kernel
theorem dX7_access_26 : decode cX7_access 26 = .ok (.getfield 7, 3) := by decide +kernel
theorem dX7_access_29 : decode cX7_access 29 = .ok (.iload_n 2, 1) := by decide +kernel
theorem dX7_access_30 : decode cX7_access 30 = .ok (.iconst 1, 1) := by decide +kernel
theorem dX7_access_31 : decode cX7_access 31 = .ok (.iadd, 1) := by decide +kernel
theorem dX7_access_32 : decode cX7_access 32 = .ok (.iaload, 1) := by decide +kernel
theorem dX7_access_33 : decode cX7_access 33 = .ok (.iadd, 1) := by decide +kernel
theorem dX7_access_34 : decode cX7_access 34 = .ok (.istore 5, 2) := by decide +kernel
theorem dX7_access_36 : decode cX7_access 36 = .ok (.iconst 4, 1) := by decide +kernel
theorem dX7_access_37 : decode cX7_access 37 = .ok (.iload_n 1, 1) := by decide +kernel
theorem dX7_access_38 : decode cX7_access 38 = .ok (.imul, 1) := by decide +kernel
theorem dX7_access_39 : decode cX7_access 39 = .ok (.aload_n 0, 1) := by decide +kernel
theorem dX7_access_40 : decode cX7_access 40 = .ok (.getfield 7, 3) := by decide +kernel
theorem dX7_access_43 : decode cX7_access 43 = .ok (.iload_n 2, 1) := by decide +kernel
theorem dX7_access_44 : decode cX7_access 44 = .ok (.iconst 2, 1) := by decide +kernel
theorem dX7_access_45 : decode cX7_access 45 = .ok (.iadd, 1) := by decide +kernel
theorem dX7_access_46 : decode cX7_access 46 = .ok (.iaload, 1) := by decide +kernel
theorem dX7_access_47 : decode cX7_access 47 = .ok (.iadd, 1) := by decide +kernel
theorem dX7_access_48 : decode cX7_access 48 = .ok (.istore 6, 2) := by decide +kernel
theorem dX7_access_50 : decode cX7_access 50 = .ok (.aload_n 0, 1) := by decide +kernel
theorem dX7_access_51 : decode cX7_access 51 = .ok (.getfield 7, 3) := by decide +kernel
theorem dX7_access_54 : decode cX7_access 54 = .ok (.iload_n 2, 1) := by decide +kernel
theorem dX7_access_55 : decode cX7_access 55 = .ok (.iload 4, 2) := by decide +kernel
theorem dX7_access_57 : decode cX7_access 57 = .ok (.ifCond .eq 7, 3) := by decide +kernel
theorem dX7_access_60 : decode cX7_access 60 = .ok (.iconst 3, 1) := by decide +kernel
theorem dX7_access_61 : decode cX7_access 61 = .ok (.goto 4, 3) := by decide +kernel
theorem dX7_access_64 : decode cX7_access 64 = .ok (.iconst 2, 1) := by decide +kernel
theorem dX7_access_65 : decode cX7_access 65 = .ok (.iadd, 1) := by decide +kernel
theorem dX7_access_66 : decode cX7_access 66 = .ok (.iaload, 1) := by decide +kernel
theorem dX7_access_67 : decode cX7_access 67 = .ok (.istore 7, 2) := by decide +kernel
theorem dX7_access_69 : decode cX7_access 69 = .ok (.aload_n 0, 1) := by decide +kernel
theorem dX7_access_70 : decode cX7_access 70 = .ok (.getfield 7, 3) := by decide +kernel
theorem dX7_access_73 : decode cX7_access 73 = .ok (.iload_n 2, 1) := by decide +kernel
theorem dX7_access_74 : decode cX7_access 74 = .ok (.iload 4, 2) := by decide +kernel
theorem dX7_access_76 : decode cX7_access 76 = .ok (.ifCond .eq 7, 3) := by decide +kernel
theorem dX7_access_79 : decode cX7_access 79 = .ok (.iconst 4, 1) := by decide +kernel
theorem dX7_access_80 : decode cX7_access 80 = .ok (.goto 4, 3) := by decide +kernel
theorem dX7_access_83 : decode cX7_access 83 = .ok (.iconst 3, 1) := by decide +kernel
theorem dX7_access_84 : decode cX7_access 84 = .ok (.iadd, 1) := by decide +kernel
theorem dX7_access_85 : decode cX7_access 85 = .ok (.iaload, 1) := by decide +kernel
theorem dX7_access_86 : decode cX7_access 86 = .ok (.istore 8, 2) := by decide +kernel
theorem dX7_access_88 : decode cX7_access 88 = .ok (.iload 8, 2) := by decide +kernel
theorem dX7_access_90 : decode cX7_access 90 = .ok (.ifCond .ge 8, 3) := by decide +kernel
theorem dX7_access_93 : decode cX7_access 93 = .ok (.iload 7, 2) := by decide +kernel
theorem dX7_access_95 : decode cX7_access 95 = .ok (.goto 19, 3) := by decide +kernel
theorem dX7_access_98 : decode cX7_access 98 = .ok (.iload 7, 2) := by decide +kernel
theorem dX7_access_100 : decode cX7_access 100 = .ok (.aload_n 0, 1) := by decide +kernel
theorem dX7_access_101 : decode cX7_access 101 = .ok (.getfield 27, 3) := by decide +kernel
theorem dX7_access_104 : decode cX7_access 104 = .ok (.iconst 4, 1) := by decide +kernel
theorem dX7_access_105 : decode cX7_access 105 = .ok (.iload_n 1, 1) := by decide +kernel
theorem dX7_access_106 : decode cX7_access 106 = .ok (.imul, 1) := by decide +kernel
theorem dX7_access_107 : decode cX7_access 107 = .ok (.iload 8, 2) := by decide +kernel
theorem dX7_access_109 : decode cX7_access 109 = .ok (.iadd, 1) := by decide +kernel
theorem dX7_access_110 : decode cX7_access 110 = .ok (.iaload, 1) := by decide +kernel
theorem dX7_access_111 : decode cX7_access 111 = .ok (.iadd, 1) := by decide +kernel
theorem dX7_access_112 : decode cX7_access 112 = .ok (.iconst 3, 1) := by decide +kernel
theorem dX7_access_113 : decode cX7_access 113 = .ok (.irem, 1) := by decide +kernel
theorem dX7_access_114 : decode cX7_access 114 = .ok (.istore 9, 2) := by decide +kernel
theorem dX7_access_116 : decode cX7_access 116 = .ok (.iload_n 3, 1) := by decide +kernel
theorem dX7_access_117 : decode cX7_access 117 = .ok (.iconst 5, 1) := by decide +kernel
theorem dX7_access_118 : decode cX7_access 118 = .ok (.if_icmp .ne 96, 3) := by decide +kernel
theorem dX7_access_121 : decode cX7_access 121 = .ok (.aload_n 0, 1) := by decide +kernel
theorem dX7_access_122 : decode cX7_access 122 = .ok (.getfield 141, 3) := by decide +kernel
theorem dX7_access_125 : decode cX7_access 125 = .ok (.ifCond .lt 21, 3) := by decide +kernel
theorem dX7_access_128 : decode cX7_access 128 = .ok (.aload_n 0, 1) := by decide +kernel
theorem dX7_access_129 : decode cX7_access 129 = .ok (.getfield 39, 3) := by decide +kernel
theorem dX7_access_132 : decode cX7_access 132 = .ok (.aload_n 0, 1) := by decide +kernel
theorem dX7_access_133 : decode cX7_access 133 = .ok (.getfield 141, 3) := by decide +kernel
theorem dX7_access_136 : decode cX7_access 136 = .ok (.iaload, 1) := by decide +kernel
theorem dX7_access_137 : decode cX7_access 137 = .ok (.iload 9, 2) := by decide +kernel
theorem dX7_access_139 : decode cX7_access 139 = .ok (.if_icmp .ne 7, 3) := by decide +kernel
theorem dX7_access_142 : decode cX7_access 142 = .ok (.iconst 1, 1) := by decide +kernel
theorem dX7_access_143 : decode cX7_access 143 = .ok (.goto 4, 3) := by decide +kernel
theorem dX7_access_146 : decode cX7_access 146 = .ok (.iconst 0, 1) := by decide +kernel
theorem dX7_access_147 : decode cX7_access 147 = .ok (.istore 10, 2) := by decide +kernel
theorem dX7_access_149 : decode cX7_access 149 = .ok (.iload 10, 2) := by decide +kernel
theorem dX7_access_151 : decode cX7_access 151 = .ok (.ifCond .eq 12, 3) := by decide +kernel
theorem dX7_access_154 : decode cX7_access 154 = .ok (.aload_n 0, 1) := by decide +kernel
theorem dX7_access_155 : decode cX7_access 155 = .ok (.iconst 2, 1) := by decide +kernel
theorem dX7_access_156 : decode cX7_access 156 = .ok (.invokevirtual 148, 3) := by decide +kernel
theorem dX7_access_159 : decode cX7_access 159 = .ok (.iconst 1, 1) := by decide +kernel
theorem dX7_access_160 : decode cX7_access 160 = .ok (.if_icmp .ne 7, 3) := by decide +kernel
theorem dX7_access_163 : decode cX7_access 163 = .ok (.iconst 1, 1) := by decide +kernel
theorem dX7_access_164 : decode cX7_access 164 = .ok (.goto 4, 3) := by decide +kernel
theorem dX7_access_167 : decode cX7_access 167 = .ok (.iconst 0, 1) := by decide +kernel
theorem dX7_access_168 : decode cX7_access 168 = .ok (.istore 11, 2) := by decide +kernel
theorem dX7_access_170 : decode cX7_access 170 = .ok (.aload_n 0, 1) := by decide +kernel
theorem dX7_access_171 : decode cX7_access 171 = .ok (.getfield 141, 3) := by decide +kernel
theorem dX7_access_174 : decode cX7_access 174 = .ok (.istore 12, 2) := by decide +kernel
theorem dX7_access_176 : decode cX7_access 176 = .ok (.aload_n 0, 1) := by decide +kernel
theorem dX7_access_177 : decode cX7_access 177 = .ok (.iconst (-1), 1) := by decide +kernel
theorem dX7_access_178 : decode cX7_access 178 = .ok (.putfield 141, 3) := by decide +kernel
theorem dX7_access_181 : decode cX7_access 181 = .ok (.iload 11, 2) := by decide +kernel
theorem dX7_access_183 : decode cX7_access 183 = .ok (.ifCond .eq 20, 3) := by decide +kernel
theorem dX7_access_186 : decode cX7_access 186 = .ok (.aload_n 0, 1) := by decide +kernel
theorem dX7_access_187 : decode cX7_access 187 = .ok (.getfield 27, 3) := by decide +kernel
theorem dX7_access_190 : decode cX7_access 190 = .ok (.iload 5, 2) := by decide +kernel
theorem dX7_access_192 : decode cX7_access 192 = .ok (.iconst 1, 1) := by decide +kernel
theorem dX7_access_193 : decode cX7_access 193 = .ok (.iastore, 1) := by decide +kernel
theorem dX7_access_194 : decode cX7_access 194 = .ok (.aload_n 0, 1) := by decide +kernel
theorem dX7_access_195 : decode cX7_access 195 = .ok (.getfield 30, 3) := by decide +kernel
theorem dX7_access_198 : decode cX7_access 198 = .ok (.iload 5, 2) := by decide +kernel
theorem dX7_access_200 : decode cX7_access 200 = .ok (.iconst 0, 1) := by decide +kernel
theorem dX7_access_201 : decode cX7_access 201 = .ok (.iastore, 1) := by decide +kernel
theorem dX7_access_202 : decode cX7_access 202 = .ok (.return_, 1) := by decide +kernel
theorem dX7_access_203 : decode cX7_access 203 = .ok (.aload_n 0, 1) := by decide +kernel
theorem dX7_access_204 : decode cX7_access 204 = .ok (.getfield 60, 3) := by decide +kernel
theorem dX7_access_207 : decode cX7_access 207 = .ok (.aload_n 0, 1) := by decide +kernel
theorem dX7_access_208 : decode cX7_access 208 = .ok (.getfield 128, 3) := by decide +kernel
theorem dX7_access_211 : decode cX7_access 211 = .ok (.iload 12, 2) := by decide +kernel
theorem dX7_access_213 : decode cX7_access 213 = .ok (.iastore, 1) := by decide +kernel
theorem dX7_access_214 : decode cX7_access 214 = .ok (.aload_n 0, 1) := by decide +kernel
theorem dX7_access_215 : decode cX7_access 215 = .ok (.getfield 128, 3) := by decide +kernel
theorem dX7_access_218 : decode cX7_access 218 = .ok (.istore 10, 2) := by decide +kernel
theorem dX7_access_220 : decode cX7_access 220 = .ok (.aload_n 0, 1) := by decide +kernel
theorem dX7_access_221 : decode cX7_access 221 = .ok (.dup, 1) := by decide +kernel
theorem dX7_access_222 : decode cX7_access 222 = .ok (.getfield 128, 3) := by decide +kernel
theorem dX7_access_225 : decode cX7_access 225 = .ok (.iconst 1, 1) := by decide +kernel
theorem dX7_access_226 : decode cX7_access 226 = .ok (.iadd, 1) := by decide +kernel
theorem dX7_access_227 : decode cX7_access 227 = .ok (.putfield 128, 3) := by decide +kernel
theorem dX7_access_230 : decode cX7_access 230 = .ok (.aload_n 0, 1) := by decide +kernel
theorem dX7_access_231 : decode cX7_access 231 = .ok (.getfield 33, 3) := by decide +kernel
theorem dX7_access_234 : decode cX7_access 234 = .ok (.iload 10, 2) := by decide +kernel
theorem dX7_access_236 : decode cX7_access 236 = .ok (.iload_n 1, 1) := by decide +kernel
theorem dX7_access_237 : decode cX7_access 237 = .ok (.iastore, 1) := by decide +kernel
theorem dX7_access_238 : decode cX7_access 238 = .ok (.aload_n 0, 1) := by decide +kernel
theorem dX7_access_239 : decode cX7_access 239 = .ok (.getfield 36, 3) := by decide +kernel
theorem dX7_access_242 : decode cX7_access 242 = .ok (.iload 10, 2) := by decide +kernel
theorem dX7_access_244 : decode cX7_access 244 = .ok (.iload_n 3, 1) := by decide +kernel
theorem dX7_access_245 : decode cX7_access 245 = .ok (.iastore, 1) := by decide +kernel
theorem dX7_access_246 : decode cX7_access 246 = .ok (.aload_n 0, 1) := by decide +kernel
theorem dX7_access_247 : decode cX7_access 247 = .ok (.getfield 39, 3) := by decide +kernel
theorem dX7_access_250 : decode cX7_access 250 = .ok (.iload 10, 2) := by decide +kernel
theorem dX7_access_252 : decode cX7_access 252 = .ok (.iload 9, 2) := by decide +kernel
theorem dX7_access_254 : decode cX7_access 254 = .ok (.iastore, 1) := by decide +kernel
theorem dX7_access_255 : decode cX7_access 255 = .ok (.aload_n 0, 1) := by decide +kernel
theorem dX7_access_256 : decode cX7_access 256 = .ok (.getfield 48, 3) := by decide +kernel
theorem dX7_access_259 : decode cX7_access 259 = .ok (.iload 10, 2) := by decide +kernel
theorem dX7_access_261 : decode cX7_access 261 = .ok (.aload_n 0, 1) := by decide +kernel
theorem dX7_access_262 : decode cX7_access 262 = .ok (.getfield 7, 3) := by decide +kernel
theorem dX7_access_265 : decode cX7_access 265 = .ok (.iload_n 2, 1) := by decide +kernel
theorem dX7_access_266 : decode cX7_access 266 = .ok (.iload 4, 2) := by decide +kernel
theorem dX7_access_268 : decode cX7_access 268 = .ok (.ifCond .eq 7, 3) := by decide +kernel
theorem dX7_access_271 : decode cX7_access 271 = .ok (.iconst 5, 1) := by decide +kernel
theorem dX7_access_272 : decode cX7_access 272 = .ok (.goto 4, 3) := by decide +kernel
theorem dX7_access_275 : decode cX7_access 275 = .ok (.iconst 4, 1) := by decide +kernel
theorem dX7_access_276 : decode cX7_access 276 = .ok (.iadd, 1) := by decide +kernel
theorem dX7_access_277 : decode cX7_access 277 = .ok (.iaload, 1) := by decide +kernel
theorem dX7_access_278 : decode cX7_access 278 = .ok (.iastore, 1) := by decide +kernel
theorem dX7_access_279 : decode cX7_access 279 = .ok (.aload_n 0, 1) := by decide +kernel
theorem dX7_access_280 : decode cX7_access 280 = .ok (.getfield 51, 3) := by decide +kernel
theorem dX7_access_283 : decode cX7_access 283 = .ok (.iload 10, 2) := by decide +kernel
theorem dX7_access_285 : decode cX7_access 285 = .ok (.iload 8, 2) := by decide +kernel
theorem dX7_access_287 : decode cX7_access 287 = .ok (.ifCond .ge 7, 3) := by decide +kernel
theorem dX7_access_290 : decode cX7_access 290 = .ok (.iconst 0, 1) := by decide +kernel
theorem dX7_access_291 : decode cX7_access 291 = .ok (.goto 14, 3) := by decide +kernel
theorem dX7_access_294 : decode cX7_access 294 = .ok (.aload_n 0, 1) := by decide +kernel
theorem dX7_access_295 : decode cX7_access 295 = .ok (.getfield 30, 3) := by decide +kernel
theorem dX7_access_298 : decode cX7_access 298 = .ok (.iconst 4, 1) := by decide +kernel
theorem dX7_access_299 : decode cX7_access 299 = .ok (.iload_n 1, 1) := by decide +kernel
theorem dX7_access_300 : decode cX7_access 300 = .ok (.imul, 1) := by decide +kernel
theorem dX7_access_301 : decode cX7_access 301 = .ok (.iload 8, 2) := by decide +kernel
theorem dX7_access_303 : decode cX7_access 303 = .ok (.iadd, 1) := by decide +kernel
theorem dX7_access_304 : decode cX7_access 304 = .ok (.iaload, 1) := by decide +kernel
theorem dX7_access_305 : decode cX7_access 305 = .ok (.iastore, 1) := by decide +kernel
theorem dX7_access_306 : decode cX7_access 306 = .ok (.aload_n 0, 1) := by decide +kernel
theorem dX7_access_307 : decode cX7_access 307 = .ok (.getfield 57, 3) := by decide +kernel
theorem dX7_access_310 : decode cX7_access 310 = .ok (.iload 10, 2) := by decide +kernel
theorem dX7_access_312 : decode cX7_access 312 = .ok (.aload_n 0, 1) := by decide +kernel
theorem dX7_access_313 : decode cX7_access 313 = .ok (.getfield 138, 3) := by decide +kernel
theorem dX7_access_316 : decode cX7_access 316 = .ok (.iastore, 1) := by decide +kernel
theorem dX7_access_317 : decode cX7_access 317 = .ok (.iload_n 3, 1) := by decide +kernel
theorem dX7_access_318 : decode cX7_access 318 = .ok (.iconst 1, 1) := by decide +kernel
theorem dX7_access_319 : decode cX7_access 319 = .ok (.if_icmp .ne 8, 3) := by decide +kernel
theorem dX7_access_322 : decode cX7_access 322 = .ok (.iload 5, 2) := by decide +kernel
theorem dX7_access_324 : decode cX7_access 324 = .ok (.goto 5, 3) := by decide +kernel
theorem dX7_access_327 : decode cX7_access 327 = .ok (.iload 6, 2) := by decide +kernel
theorem dX7_access_329 : decode cX7_access 329 = .ok (.istore 11, 2) := by decide +kernel
theorem dX7_access_331 : decode cX7_access 331 = .ok (.aload_n 0, 1) := by decide +kernel
theorem dX7_access_332 : decode cX7_access 332 = .ok (.getfield 54, 3) := by decide +kernel
theorem dX7_access_335 : decode cX7_access 335 = .ok (.iload 10, 2) := by decide +kernel
theorem dX7_access_337 : decode cX7_access 337 = .ok (.iload_n 3, 1) := by decide +kernel
theorem dX7_access_338 : decode cX7_access 338 = .ok (.invokestatic 151, 3) := by decide +kernel
theorem dX7_access_341 : decode cX7_access 341 = .ok (.ifCond .eq 13, 3) := by decide +kernel
theorem dX7_access_344 : decode cX7_access 344 = .ok (.aload_n 0, 1) := by decide +kernel
theorem dX7_access_345 : decode cX7_access 345 = .ok (.getfield 30, 3) := by decide +kernel
theorem dX7_access_348 : decode cX7_access 348 = .ok (.iload 11, 2) := by decide +kernel
theorem dX7_access_350 : decode cX7_access 350 = .ok (.iaload, 1) := by decide +kernel
theorem dX7_access_351 : decode cX7_access 351 = .ok (.goto 4, 3) := by decide +kernel
theorem dX7_access_354 : decode cX7_access 354 = .ok (.iconst 0, 1) := by decide +kernel
theorem dX7_access_355 : decode cX7_access 355 = .ok (.iastore, 1) := by decide +kernel
theorem dX7_access_356 : decode cX7_access 356 = .ok (.iload_n 3, 1) := by decide +kernel
theorem dX7_access_357 : decode cX7_access 357 = .ok (.invokestatic 151, 3) := by decide +kernel
theorem dX7_access_360 : decode cX7_access 360 = .ok (.ifCond .eq 13, 3) := by decide +kernel
theorem dX7_access_363 : decode cX7_access 363 = .ok (.aload_n 0, 1) := by decide +kernel
theorem dX7_access_364 : decode cX7_access 364 = .ok (.getfield 27, 3) := by decide +kernel
theorem dX7_access_367 : decode cX7_access 367 = .ok (.iload 11, 2) := by decide +kernel
theorem dX7_access_369 : decode cX7_access 369 = .ok (.iaload, 1) := by decide +kernel
theorem dX7_access_370 : decode cX7_access 370 = .ok (.goto 4, 3) := by decide +kernel
theorem dX7_access_373 : decode cX7_access 373 = .ok (.iconst 0, 1) := by decide +kernel
theorem dX7_access_374 : decode cX7_access 374 = .ok (.istore 12, 2) := by decide +kernel
theorem dX7_access_376 : decode cX7_access 376 = .ok (.iload_n 3, 1) := by decide +kernel
theorem dX7_access_377 : decode cX7_access 377 = .ok (.invokestatic 108, 3) := by decide +kernel
theorem dX7_access_380 : decode cX7_access 380 = .ok (.ifCond .eq 11, 3) := by decide +kernel
theorem dX7_access_383 : decode cX7_access 383 = .ok (.aload_n 0, 1) := by decide +kernel
theorem dX7_access_384 : decode cX7_access 384 = .ok (.iconst 4, 1) := by decide +kernel
theorem dX7_access_385 : decode cX7_access 385 = .ok (.invokevirtual 148, 3) := by decide +kernel
theorem dX7_access_388 : decode cX7_access 388 = .ok (.goto 4, 3) := by decide +kernel
theorem dX7_access_391 : decode cX7_access 391 = .ok (.iconst 0, 1) := by decide +kernel
theorem dX7_access_392 : decode cX7_access 392 = .ok (.istore 13, 2) := by decide +kernel
theorem dX7_access_394 : decode cX7_access 394 = .ok (.aload_n 0, 1) := by decide +kernel
theorem dX7_access_395 : decode cX7_access 395 = .ok (.getfield 42, 3) := by decide +kernel
