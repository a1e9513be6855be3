theorem dX7_access_398 : decode cX7_access 398 = .ok (.iload 10, 2) := by decide +kernel
theorem dX7_access_400 : decode cX7_access 400 = .ok (.iload 13, 2) := by decide +kernel
theorem dX7_access_402 : decode cX7_access 402 = .ok (.iastore, 1) := by decide +kernel
theorem dX7_access_403 : decode cX7_access 403 = .ok (.aload_n 0, 1) := by decide +kernel
theorem dX7_access_404 : decode cX7_access 404 = .ok (.getfield 45, 3) := by decide +kernel
theorem dX7_access_407 : decode cX7_access 407 = .ok (.iload 10, 2) := by decide +kernel
theorem dX7_access_409 : decode cX7_access 409 = .ok (.iload_n 3, 1) := by decide +kernel
theorem dX7_access_410 : decode cX7_access 410 = .ok (.iconst 3, 1) := by decide +kernel
theorem dX7_access_411 : decode cX7_access 411 = .ok (.if_icmp .ne 13, 3) := by decide +kernel
theorem dX7_access_414 : decode cX7_access 414 = .ok (.iload 12, 2) := by decide +kernel
theorem dX7_access_416 : decode cX7_access 416 = .ok (.iload 13, 2) := by decide +kernel
theorem dX7_access_418 : decode cX7_access 418 = .ok (.iadd, 1) := by decide +kernel
theorem dX7_access_419 : decode cX7_access 419 = .ok (.iconst 3, 1) := by decide +kernel
theorem dX7_access_420 : decode cX7_access 420 = .ok (.iand, 1) := by decide +kernel
theorem dX7_access_421 : decode cX7_access 421 = .ok (.goto 5, 3) := by decide +kernel
theorem dX7_access_424 : decode cX7_access 424 = .ok (.iload 12, 2) := by decide +kernel
theorem dX7_access_426 : decode cX7_access 426 = .ok (.iastore, 1) := by decide +kernel
theorem dX7_access_427 : decode cX7_access 427 = .ok (.iload_n 3, 1) := by decide +kernel
theorem dX7_access_428 : decode cX7_access 428 = .ok (.iconst 1, 1) := by decide +kernel
theorem dX7_access_429 : decode cX7_access 429 = .ok (.if_icmp .eq 32, 3) := by decide +kernel
theorem dX7_access_432 : decode cX7_access 432 = .ok (.aload_n 0, 1) := by decide +kernel
theorem dX7_access_433 : decode cX7_access 433 = .ok (.getfield 27, 3) := by decide +kernel
theorem dX7_access_436 : decode cX7_access 436 = .ok (.iload 5, 2) := by decide +kernel
theorem dX7_access_438 : decode cX7_access 438 = .ok (.iload_n 3, 1) := by decide +kernel
theorem dX7_access_439 : decode cX7_access 439 = .ok (.iconst 5, 1) := by decide +kernel
theorem dX7_access_440 : decode cX7_access 440 = .ok (.if_icmp .ne 7, 3) := by decide +kernel
theorem dX7_access_443 : decode cX7_access 443 = .ok (.iconst 0, 1) := by decide +kernel
theorem dX7_access_444 : decode cX7_access 444 = .ok (.goto 5, 3) := by decide +kernel
theorem dX7_access_447 : decode cX7_access 447 = .ok (.iload 13, 2) := by decide +kernel
theorem dX7_access_449 : decode cX7_access 449 = .ok (.iastore, 1) := by decide +kernel
theorem dX7_access_450 : decode cX7_access 450 = .ok (.aload_n 0, 1) := by decide +kernel
theorem dX7_access_451 : decode cX7_access 451 = .ok (.getfield 30, 3) := by decide +kernel
theorem dX7_access_454 : decode cX7_access 454 = .ok (.iload 5, 2) := by decide +kernel
theorem dX7_access_456 : decode cX7_access 456 = .ok (.iconst 1, 1) := by decide +kernel
theorem dX7_access_457 : decode cX7_access 457 = .ok (.iload 10, 2) := by decide +kernel
theorem dX7_access_459 : decode cX7_access 459 = .ok (.ishl, 1) := by decide +kernel
theorem dX7_access_460 : decode cX7_access 460 = .ok (.iastore, 1) := by decide +kernel
theorem dX7_access_461 : decode cX7_access 461 = .ok (.iload_n 3, 1) := by decide +kernel
theorem dX7_access_462 : decode cX7_access 462 = .ok (.iconst 4, 1) := by decide +kernel
theorem dX7_access_463 : decode cX7_access 463 = .ok (.if_icmp .ne 9, 3) := by decide +kernel
theorem dX7_access_466 : decode cX7_access 466 = .ok (.aload_n 0, 1) := by decide +kernel
theorem dX7_access_467 : decode cX7_access 467 = .ok (.iload 10, 2) := by decide +kernel
theorem dX7_access_469 : decode cX7_access 469 = .ok (.putfield 141, 3) := by decide +kernel
theorem dX7_access_472 : decode cX7_access 472 = .ok (.return_, 1) := by decide +kernel
set_option maxRecDepth 20000 in
theorem ggX7_reads_X7_isReading : GoodIn wsX7_reads wsX7_isReading := goodIn_r _ [5] (by decide +kernel) (by decide +kernel)
set_option maxRecDepth 20000 in
theorem gX7_reads_X7_isReading : GoodIn wsX7_reads (va_wsS RX7 108 yX7_isReading wsX7_isReading) := goodIn_app (goodIn_of _ (by decide +kernel)) ggX7_reads_X7_isReading
theorem dX7_reads_0 : decode cX7_reads 0 = .ok (.aload_n 0, 1) := by decide +kernel
theorem dX7_reads_1 : decode cX7_reads 1 = .ok (.getfield 36, 3) := by decide +kernel
theorem dX7_reads_4 : decode cX7_reads 4 = .ok (.iload_n 1, 1) := by decide +kernel
theorem dX7_reads_5 : decode cX7_reads 5 = .ok (.iaload, 1) := by decide +kernel
theorem dX7_reads_6 : decode cX7_reads 6 = .ok (.invokestatic 108, 3) := by decide +kernel
theorem dX7_reads_9 : decode cX7_reads 9 = .ok (.ireturn, 1) := by decide +kernel
set_option maxRecDepth 20000 in
theorem ggX7_writes_X7_isWriting : GoodIn wsX7_writes wsX7_isWriting := goodIn_r _ [5] (by decide +kernel) (by decide +kernel)
set_option maxRecDepth 20000 in
theorem gX7_writes_X7_isWriting : GoodIn wsX7_writes (va_wsS RX7 151 yX7_isWriting wsX7_isWriting) := goodIn_app (goodIn_of _ (by decide +kernel)) ggX7_writes_X7_isWriting
theorem dX7_writes_0 : decode cX7_writes 0 = .ok (.aload_n 0, 1) := by decide +kernel
theorem dX7_writes_1 : decode cX7_writes 1 = .ok (.getfield 36, 3) := by decide +kernel
theorem dX7_writes_4 : decode cX7_writes 4 = .ok (.iload_n 1, 1) := by decide +kernel
theorem dX7_writes_5 : decode cX7_writes 5 = .ok (.iaload, 1) := by decide +kernel
theorem dX7_writes_6 : decode cX7_writes 6 = .ok (.invokestatic 151, 3) := by decide +kernel
theorem dX7_writes_9 : decode cX7_writes 9 = .ok (.ireturn, 1) := by decide +kernel
theorem dX7_needs_0 : decode cX7_needs 0 = .ok (.iload_n 0, 1) := by decide +kernel
theorem dX7_needs_1 : decode cX7_needs 1 = .ok (.iload_n 1, 1) := by decide +kernel
theorem dX7_needs_2 : decode cX7_needs 2 = .ok (.ishr, 1) := by decide +kernel
theorem dX7_needs_3 : decode cX7_needs 3 = .ok (.iconst 1, 1) := by decide +kernel
theorem dX7_needs_4 : decode cX7_needs 4 = .ok (.iand, 1) := by decide +kernel
theorem dX7_needs_5 : decode cX7_needs 5 = .ok (.iconst 1, 1) := by decide +kernel
theorem dX7_needs_6 : decode cX7_needs 6 = .ok (.if_icmp .ne 7, 3) := by decide +kernel
theorem dX7_needs_9 : decode cX7_needs 9 = .ok (.iconst 1, 1) := by decide +kernel
theorem dX7_needs_10 : decode cX7_needs 10 = .ok (.goto 4, 3) := by decide +kernel
theorem dX7_needs_13 : decode cX7_needs 13 = .ok (.iconst 0, 1) := by decide +kernel
theorem dX7_needs_14 : decode cX7_needs 14 = .ok (.ireturn, 1) := by decide +kernel
set_option maxRecDepth 20000 in
theorem ggX7_isFenced_X7_reads : GoodIn wsX7_isFenced wsX7_reads := goodIn_r _ [11, 12, 13, 14, 10, 15, 23, 24, 25, 26, 27, 28, 29, 30, 31, 32, 33, 34, 35, 36, 37, 38, 39, 40, 41, 42, 43, 44, 45, 46, 47, 48, 49, 50, 51, 52, 53, 54, 55, 56, 57] (by decide +kernel) (by decide +kernel)
set_option maxRecDepth 20000 in
theorem gX7_isFenced_X7_reads : GoodIn wsX7_isFenced (wsV RX7 154 RX7 yX7_reads wsX7_reads) := goodIn_app (goodIn_of _ (by decide +kernel)) ggX7_isFenced_X7_reads
set_option maxRecDepth 20000 in
theorem ggX7_isFenced_X7_writes : GoodIn wsX7_isFenced wsX7_writes := goodIn_r _ [19, 12, 20, 21, 10, 22, 23, 24, 25, 26, 27, 28, 29, 30, 31, 32, 33, 34, 35, 36, 37, 38, 39, 40, 41, 42, 43, 44, 45, 46, 47, 48, 49, 50, 51, 52, 53, 54, 55, 56, 57] (by decide +kernel) (by decide +kernel)
set_option maxRecDepth 20000 in
theorem gX7_isFenced_X7_writes : GoodIn wsX7_isFenced (wsV RX7 157 RX7 yX7_writes wsX7_writes) := goodIn_app (goodIn_of _ (by decide +kernel)) ggX7_isFenced_X7_writes
theorem dX7_isFenced_0 : decode cX7_isFenced 0 = .ok (.iconst 0, 1) := by decide +kernel
theorem dX7_isFenced_1 : decode cX7_isFenced 1 = .ok (.istore_n 3, 1) := by decide +kernel
theorem dX7_isFenced_2 : decode cX7_isFenced 2 = .ok (.iload_n 3, 1) := by decide +kernel
theorem dX7_isFenced_3 : decode cX7_isFenced 3 = .ok (.aload_n 0, 1) := by decide +kernel
theorem dX7_isFenced_4 : decode cX7_isFenced 4 = .ok (.getfield 131, 3) := by decide +kernel
theorem dX7_isFenced_7 : decode cX7_isFenced 7 = .ok (.if_icmp .ge 158, 3) := by decide +kernel
theorem dX7_isFenced_10 : decode cX7_isFenced 10 = .ok (.aload_n 0, 1) := by decide +kernel
theorem dX7_isFenced_11 : decode cX7_isFenced 11 = .ok (.getfield 63, 3) := by decide +kernel
theorem dX7_isFenced_14 : decode cX7_isFenced 14 = .ok (.iload_n 3, 1) := by decide +kernel
theorem dX7_isFenced_15 : decode cX7_isFenced 15 = .ok (.iaload, 1) := by decide +kernel
theorem dX7_isFenced_16 : decode cX7_isFenced 16 = .ok (.aload_n 0, 1) := by decide +kernel
theorem dX7_isFenced_17 : decode cX7_isFenced 17 = .ok (.getfield 33, 3) := by decide +kernel
theorem dX7_isFenced_20 : decode cX7_isFenced 20 = .ok (.iload_n 1, 1) := by decide +kernel
theorem dX7_isFenced_21 : decode cX7_isFenced 21 = .ok (.iaload, 1) := by decide +kernel
theorem dX7_isFenced_22 : decode cX7_isFenced 22 = .ok (.if_icmp .ne 27, 3) := by decide +kernel
theorem dX7_isFenced_25 : decode cX7_isFenced 25 = .ok (.aload_n 0, 1) := by decide +kernel
theorem dX7_isFenced_26 : decode cX7_isFenced 26 = .ok (.getfield 66, 3) := by decide +kernel
theorem dX7_isFenced_29 : decode cX7_isFenced 29 = .ok (.iload_n 3, 1) := by decide +kernel
theorem dX7_isFenced_30 : decode cX7_isFenced 30 = .ok (.iaload, 1) := by decide +kernel
theorem dX7_isFenced_31 : decode cX7_isFenced 31 = .ok (.iload_n 1, 1) := by decide +kernel
theorem dX7_isFenced_32 : decode cX7_isFenced 32 = .ok (.if_icmp .le 17, 3) := by decide +kernel
theorem dX7_isFenced_35 : decode cX7_isFenced 35 = .ok (.aload_n 0, 1) := by decide +kernel
theorem dX7_isFenced_36 : decode cX7_isFenced 36 = .ok (.getfield 66, 3) := by decide +kernel
theorem dX7_isFenced_39 : decode cX7_isFenced 39 = .ok (.iload_n 3, 1) := by decide +kernel
theorem dX7_isFenced_40 : decode cX7_isFenced 40 = .ok (.iaload, 1) := by decide +kernel
theorem dX7_isFenced_41 : decode cX7_isFenced 41 = .ok (.iload_n 2, 1) := by decide +kernel
theorem dX7_isFenced_42 : decode cX7_isFenced 42 = .ok (.if_icmp .gt 7, 3) := by decide +kernel
theorem dX7_isFenced_45 : decode cX7_isFenced 45 = .ok (.iconst 1, 1) := by decide +kernel
theorem dX7_isFenced_46 : decode cX7_isFenced 46 = .ok (.goto 4, 3) := by decide +kernel
theorem dX7_isFenced_49 : decode cX7_isFenced 49 = .ok (.iconst 0, 1) := by decide +kernel
theorem dX7_isFenced_50 : decode cX7_isFenced 50 = .ok (.istore 4, 2) := by decide +kernel
theorem dX7_isFenced_52 : decode cX7_isFenced 52 = .ok (.aload_n 0, 1) := by decide +kernel
theorem dX7_isFenced_53 : decode cX7_isFenced 53 = .ok (.iload_n 1, 1) := by decide +kernel
theorem dX7_isFenced_54 : decode cX7_isFenced 54 = .ok (.invokevirtual 154, 3) := by decide +kernel
theorem dX7_isFenced_57 : decode cX7_isFenced 57 = .ok (.ifCond .eq 14, 3) := by decide +kernel
theorem dX7_isFenced_60 : decode cX7_isFenced 60 = .ok (.aload_n 0, 1) := by decide +kernel
theorem dX7_isFenced_61 : decode cX7_isFenced 61 = .ok (.getfield 69, 3) := by decide +kernel
theorem dX7_isFenced_64 : decode cX7_isFenced 64 = .ok (.iload_n 3, 1) := by decide +kernel
theorem dX7_isFenced_65 : decode cX7_isFenced 65 = .ok (.iaload, 1) := by decide +kernel
theorem dX7_isFenced_66 : decode cX7_isFenced 66 = .ok (.iconst 1, 1) := by decide +kernel
theorem dX7_isFenced_67 : decode cX7_isFenced 67 = .ok (.iand, 1) := by decide +kernel
theorem dX7_isFenced_68 : decode cX7_isFenced 68 = .ok (.ifCond .ne 22, 3) := by decide +kernel
theorem dX7_isFenced_71 : decode cX7_isFenced 71 = .ok (.aload_n 0, 1) := by decide +kernel
theorem dX7_isFenced_72 : decode cX7_isFenced 72 = .ok (.iload_n 1, 1) := by decide +kernel
theorem dX7_isFenced_73 : decode cX7_isFenced 73 = .ok (.invokevirtual 157, 3) := by decide +kernel
theorem dX7_isFenced_76 : decode cX7_isFenced 76 = .ok (.ifCond .eq 18, 3) := by decide +kernel
theorem dX7_isFenced_79 : decode cX7_isFenced 79 = .ok (.aload_n 0, 1) := by decide +kernel
theorem dX7_isFenced_80 : decode cX7_isFenced 80 = .ok (.getfield 69, 3) := by decide +kernel
theorem dX7_isFenced_83 : decode cX7_isFenced 83 = .ok (.iload_n 3, 1) := by decide +kernel
theorem dX7_isFenced_84 : decode cX7_isFenced 84 = .ok (.iaload, 1) := by decide +kernel
theorem dX7_isFenced_85 : decode cX7_isFenced 85 = .ok (.iconst 2, 1) := by decide +kernel
theorem dX7_isFenced_86 : decode cX7_isFenced 86 = .ok (.iand, 1) := by decide +kernel
theorem dX7_isFenced_87 : decode cX7_isFenced 87 = .ok (.ifCond .eq 7, 3) := by decide +kernel
theorem dX7_isFenced_90 : decode cX7_isFenced 90 = .ok (.iconst 1, 1) := by decide +kernel
theorem dX7_isFenced_91 : decode cX7_isFenced 91 = .ok (.goto 4, 3) := by decide +kernel
theorem dX7_isFenced_94 : decode cX7_isFenced 94 = .ok (.iconst 0, 1) := by decide +kernel
theorem dX7_isFenced_95 : decode cX7_isFenced 95 = .ok (.istore 5, 2) := by decide +kernel
theorem dX7_isFenced_97 : decode cX7_isFenced 97 = .ok (.aload_n 0, 1) := by decide +kernel
theorem dX7_isFenced_98 : decode cX7_isFenced 98 = .ok (.iload_n 2, 1) := by decide +kernel
theorem dX7_isFenced_99 : decode cX7_isFenced 99 = .ok (.invokevirtual 154, 3) := by decide +kernel
theorem dX7_isFenced_102 : decode cX7_isFenced 102 = .ok (.ifCond .eq 14, 3) := by decide +kernel
theorem dX7_isFenced_105 : decode cX7_isFenced 105 = .ok (.aload_n 0, 1) := by decide +kernel
theorem dX7_isFenced_106 : decode cX7_isFenced 106 = .ok (.getfield 72, 3) := by decide +kernel
theorem dX7_isFenced_109 : decode cX7_isFenced 109 = .ok (.iload_n 3, 1) := by decide +kernel
theorem dX7_isFenced_110 : decode cX7_isFenced 110 = .ok (.iaload, 1) := by decide +kernel
theorem dX7_isFenced_111 : decode cX7_isFenced 111 = .ok (.iconst 1, 1) := by decide +kernel
theorem dX7_isFenced_112 : decode cX7_isFenced 112 = .ok (.iand, 1) := by decide +kernel
theorem dX7_isFenced_113 : decode cX7_isFenced 113 = .ok (.ifCond .ne 22, 3) := by decide +kernel
theorem dX7_isFenced_116 : decode cX7_isFenced 116 = .ok (.aload_n 0, 1) := by decide +kernel
theorem dX7_isFenced_117 : decode cX7_isFenced 117 = .ok (.iload_n 2, 1) := by decide +kernel
theorem dX7_isFenced_118 : decode cX7_isFenced 118 = .ok (.invokevirtual 157, 3) := by decide +kernel
theorem dX7_isFenced_121 : decode cX7_isFenced 121 = .ok (.ifCond .eq 18, 3) := by decide +kernel
theorem dX7_isFenced_124 : decode cX7_isFenced 124 = .ok (.aload_n 0, 1) := by decide +kernel
theorem dX7_isFenced_125 : decode cX7_isFenced 125 = .ok (.getfield 72, 3) := by decide +kernel
theorem dX7_isFenced_128 : decode cX7_isFenced 128 = .ok (.iload_n 3, 1) := by decide +kernel
theorem dX7_isFenced_129 : decode cX7_isFenced 129 = .ok (.iaload, 1) := by decide +kernel
theorem dX7_isFenced_130 : decode cX7_isFenced 130 = .ok (.iconst 2, 1) := by decide +kernel
theorem dX7_isFenced_131 : decode cX7_isFenced 131 = .ok (.iand, 1) := by decide +kernel
theorem dX7_isFenced_132 : decode cX7_isFenced 132 = .ok (.ifCond .eq 7, 3) := by decide +kernel
theorem dX7_isFenced_135 : decode cX7_isFenced 135 = .ok (.iconst 1, 1) := by decide +kernel
theorem dX7_isFenced_136 : decode cX7_isFenced 136 = .ok (.goto 4, 3) := by decide +kernel
theorem dX7_isFenced_139 : decode cX7_isFenced 139 = .ok (.iconst 0, 1) := by decide +kernel
theorem dX7_isFenced_140 : decode cX7_isFenced 140 = .ok (.istore 6, 2) := by decide +kernel
theorem dX7_isFenced_142 : decode cX7_isFenced 142 = .ok (.iload 4, 2) := by decide +kernel
theorem dX7_isFenced_144 : decode cX7_isFenced 144 = .ok (.ifCond .eq 15, 3) := by decide +kernel
theorem dX7_isFenced_147 : decode cX7_isFenced 147 = .ok (.iload 5, 2) := by decide +kernel
theorem dX7_isFenced_149 : decode cX7_isFenced 149 = .ok (.ifCond .eq 10, 3) := by decide +kernel
theorem dX7_isFenced_152 : decode cX7_isFenced 152 = .ok (.iload 6, 2) := by decide +kernel
theorem dX7_isFenced_154 : decode cX7_isFenced 154 = .ok (.ifCond .eq 5, 3) := by decide +kernel
theorem dX7_isFenced_157 : decode cX7_isFenced 157 = .ok (.iconst 1, 1) := by decide +kernel
theorem dX7_isFenced_158 : decode cX7_isFenced 158 = .ok (.ireturn, 1) := by decide +kernel
theorem dX7_isFenced_159 : decode cX7_isFenced 159 = .ok (.iinc 3 1, 3) := by decide +kernel
theorem dX7_isFenced_162 : decode cX7_isFenced 162 = .ok (.goto (-160), 3) := by decide +kernel
theorem dX7_isFenced_165 : decode cX7_isFenced 165 = .ok (.iconst 0, 1) := by decide +kernel
theorem dX7_isFenced_166 : decode cX7_isFenced 166 = .ok (.ireturn, 1) := by decide +kernel
set_option maxRecDepth 20000 in
theorem ggX7_mustStand_X7_reads : GoodIn wsX7_mustStand wsX7_reads := goodIn_r _ [13, 4, 14, 15, 12, 16, 37, 38, 39, 40, 41, 42, 43, 44, 45, 46, 47, 48, 49, 50, 51, 52, 53, 54, 55, 56, 57, 58, 59, 60, 61, 62, 63, 64, 65, 66, 67, 68, 69, 70, 71] (by decide +kernel) (by decide +kernel)
set_option maxRecDepth 20000 in
theorem gX7_mustStand_X7_reads : GoodIn wsX7_mustStand (wsV RX7 154 RX7 yX7_reads wsX7_reads) := goodIn_app (goodIn_of _ (by decide +kernel)) ggX7_mustStand_X7_reads
set_option maxRecDepth 20000 in
theorem ggX7_mustStand_X7_writes : GoodIn wsX7_mustStand wsX7_writes := goodIn_r _ [20, 4, 21, 22, 12, 23, 37, 38, 39, 40, 41, 42, 43, 44, 45, 46, 47, 48, 49, 50, 51, 52, 53, 54, 55, 56, 57, 58, 59, 60, 61, 62, 63, 64, 65, 66, 67, 68, 69, 70, 71] (by decide +kernel) (by decide +kernel)
set_option maxRecDepth 20000 in
theorem gX7_mustStand_X7_writes : GoodIn wsX7_mustStand (wsV RX7 157 RX7 yX7_writes wsX7_writes) := goodIn_app (goodIn_of _ (by decide +kernel)) ggX7_mustStand_X7_writes
set_option maxRecDepth 20000 in
theorem ggX7_mustStand_X7_isFenced : GoodIn wsX7_mustStand wsX7_isFenced := goodIn_r _ [27, 28, 29, 30, 31, 32, 33, 9, 10, 11, 12, 13, 4, 14, 15, 16, 17, 18, 19, 20, 21, 22, 23, 37, 38, 39, 40, 41, 42, 43, 44, 45, 46, 47, 48, 49, 50, 51, 52, 53, 54, 55, 56, 57, 58, 59, 60, 61, 62, 63, 64, 65, 66, 67, 68, 69, 70, 71] (by decide +kernel) (by decide +kernel)
set_option maxRecDepth 20000 in
theorem gX7_mustStand_X7_isFenced : GoodIn wsX7_mustStand (wsV RX7 160 RX7 yX7_isFenced wsX7_isFenced) := goodIn_app (goodIn_of _ (by decide +kernel)) ggX7_mustStand_X7_isFenced
set_option maxRecDepth 20000 in
theorem ggX7_mustStand_X7_needs : GoodIn wsX7_mustStand wsX7_needs := goodIn_r _ [36] (by decide +kernel) (by decide +kernel)
set_option maxRecDepth 20000 in
theorem gX7_mustStand_X7_needs : GoodIn wsX7_mustStand (va_wsS RX7 163 yX7_needs wsX7_needs) := goodIn_app (goodIn_of _ (by decide +kernel)) ggX7_mustStand_X7_needs
theorem dX7_mustStand_0 : decode cX7_mustStand 0 = .ok (.aload_n 0, 1) := by decide +kernel
theorem dX7_mustStand_1 : decode cX7_mustStand 1 = .ok (.getfield 88, 3) := by decide +kernel
theorem dX7_mustStand_4 : decode cX7_mustStand 4 = .ok (.iconst 2, 1) := by decide +kernel
theorem dX7_mustStand_5 : decode cX7_mustStand 5 = .ok (.if_icmp .eq 27, 3) := by decide +kernel
theorem dX7_mustStand_8 : decode cX7_mustStand 8 = .ok (.aload_n 0, 1) := by decide +kernel
theorem dX7_mustStand_9 : decode cX7_mustStand 9 = .ok (.getfield 88, 3) := by decide +kernel
theorem dX7_mustStand_12 : decode cX7_mustStand 12 = .ok (.iconst 1, 1) := by decide +kernel
theorem dX7_mustStand_13 : decode cX7_mustStand 13 = .ok (.if_icmp .ne 21, 3) := by decide +kernel
theorem dX7_mustStand_16 : decode cX7_mustStand 16 = .ok (.aload_n 0, 1) := by decide +kernel
theorem dX7_mustStand_17 : decode cX7_mustStand 17 = .ok (.iload_n 1, 1) := by decide +kernel
theorem dX7_mustStand_18 : decode cX7_mustStand 18 = .ok (.invokevirtual 154, 3) := by decide +kernel
theorem dX7_mustStand_21 : decode cX7_mustStand 21 = .ok (.ifCond .ne 11, 3) := by decide +kernel
theorem dX7_mustStand_24 : decode cX7_mustStand 24 = .ok (.aload_n 0, 1) := by decide +kernel
theorem dX7_mustStand_25 : decode cX7_mustStand 25 = .ok (.iload_n 2, 1) := by decide +kernel
theorem dX7_mustStand_26 : decode cX7_mustStand 26 = .ok (.invokevirtual 157, 3) := by decide +kernel
theorem dX7_mustStand_29 : decode cX7_mustStand 29 = .ok (.ifCond .eq 5, 3) := by decide +kernel
theorem dX7_mustStand_32 : decode cX7_mustStand 32 = .ok (.iconst 1, 1) := by decide +kernel
theorem dX7_mustStand_33 : decode cX7_mustStand 33 = .ok (.ireturn, 1) := by decide +kernel
theorem dX7_mustStand_34 : decode cX7_mustStand 34 = .ok (.aload_n 0, 1) := by decide +kernel
theorem dX7_mustStand_35 : decode cX7_mustStand 35 = .ok (.getfield 39, 3) := by decide +kernel
theorem dX7_mustStand_38 : decode cX7_mustStand 38 = .ok (.iload_n 1, 1) := by decide +kernel
theorem dX7_mustStand_39 : decode cX7_mustStand 39 = .ok (.iaload, 1) := by decide +kernel
theorem dX7_mustStand_40 : decode cX7_mustStand 40 = .ok (.aload_n 0, 1) := by decide +kernel
theorem dX7_mustStand_41 : decode cX7_mustStand 41 = .ok (.getfield 39, 3) := by decide +kernel
theorem dX7_mustStand_44 : decode cX7_mustStand 44 = .ok (.iload_n 2, 1) := by decide +kernel
theorem dX7_mustStand_45 : decode cX7_mustStand 45 = .ok (.iaload, 1) := by decide +kernel
theorem dX7_mustStand_46 : decode cX7_mustStand 46 = .ok (.if_icmp .ne 7, 3) := by decide +kernel
theorem dX7_mustStand_49 : decode cX7_mustStand 49 = .ok (.iconst 1, 1) := by decide +kernel
theorem dX7_mustStand_50 : decode cX7_mustStand 50 = .ok (.goto 4, 3) := by decide +kernel
theorem dX7_mustStand_53 : decode cX7_mustStand 53 = .ok (.iconst 0, 1) := by decide +kernel
theorem dX7_mustStand_54 : decode cX7_mustStand 54 = .ok (.istore_n 3, 1) := by decide +kernel
theorem dX7_mustStand_55 : decode cX7_mustStand 55 = .ok (.aload_n 0, 1) := by decide +kernel
theorem dX7_mustStand_56 : decode cX7_mustStand 56 = .ok (.iload_n 2, 1) := by decide +kernel
theorem dX7_mustStand_57 : decode cX7_mustStand 57 = .ok (.invokevirtual 157, 3) := by decide +kernel
theorem dX7_mustStand_60 : decode cX7_mustStand 60 = .ok (.ifCond .eq 7, 3) := by decide +kernel
theorem dX7_mustStand_63 : decode cX7_mustStand 63 = .ok (.iload_n 3, 1) := by decide +kernel
theorem dX7_mustStand_64 : decode cX7_mustStand 64 = .ok (.ifCond .ne 52, 3) := by decide +kernel
theorem dX7_mustStand_67 : decode cX7_mustStand 67 = .ok (.aload_n 0, 1) := by decide +kernel
theorem dX7_mustStand_68 : decode cX7_mustStand 68 = .ok (.iload_n 1, 1) := by decide +kernel
theorem dX7_mustStand_69 : decode cX7_mustStand 69 = .ok (.iload_n 2, 1) := by decide +kernel
theorem dX7_mustStand_70 : decode cX7_mustStand 70 = .ok (.invokevirtual 160, 3) := by decide +kernel
theorem dX7_mustStand_73 : decode cX7_mustStand 73 = .ok (.ifCond .ne 43, 3) := by decide +kernel
theorem dX7_mustStand_76 : decode cX7_mustStand 76 = .ok (.aload_n 0, 1) := by decide +kernel
theorem dX7_mustStand_77 : decode cX7_mustStand 77 = .ok (.getfield 48, 3) := by decide +kernel
theorem dX7_mustStand_80 : decode cX7_mustStand 80 = .ok (.iload_n 1, 1) := by decide +kernel
theorem dX7_mustStand_81 : decode cX7_mustStand 81 = .ok (.iaload, 1) := by decide +kernel
theorem dX7_mustStand_82 : decode cX7_mustStand 82 = .ok (.iconst 1, 1) := by decide +kernel
theorem dX7_mustStand_83 : decode cX7_mustStand 83 = .ok (.iand, 1) := by decide +kernel
theorem dX7_mustStand_84 : decode cX7_mustStand 84 = .ok (.ifCond .ne 32, 3) := by decide +kernel
theorem dX7_mustStand_87 : decode cX7_mustStand 87 = .ok (.aload_n 0, 1) := by decide +kernel
theorem dX7_mustStand_88 : decode cX7_mustStand 88 = .ok (.getfield 48, 3) := by decide +kernel
theorem dX7_mustStand_91 : decode cX7_mustStand 91 = .ok (.iload_n 2, 1) := by decide +kernel
theorem dX7_mustStand_92 : decode cX7_mustStand 92 = .ok (.iaload, 1) := by decide +kernel
theorem dX7_mustStand_93 : decode cX7_mustStand 93 = .ok (.iconst 2, 1) := by decide +kernel
theorem dX7_mustStand_94 : decode cX7_mustStand 94 = .ok (.iand, 1) := by decide +kernel
theorem dX7_mustStand_95 : decode cX7_mustStand 95 = .ok (.ifCond .ne 21, 3) := by decide +kernel
theorem dX7_mustStand_98 : decode cX7_mustStand 98 = .ok (.aload_n 0, 1) := by decide +kernel
theorem dX7_mustStand_99 : decode cX7_mustStand 99 = .ok (.getfield 48, 3) := by decide +kernel
theorem dX7_mustStand_102 : decode cX7_mustStand 102 = .ok (.iload_n 1, 1) := by decide +kernel
theorem dX7_mustStand_103 : decode cX7_mustStand 103 = .ok (.iaload, 1) := by decide +kernel
theorem dX7_mustStand_104 : decode cX7_mustStand 104 = .ok (.ifCond .eq 14, 3) := by decide +kernel
theorem dX7_mustStand_107 : decode cX7_mustStand 107 = .ok (.aload_n 0, 1) := by decide +kernel
theorem dX7_mustStand_108 : decode cX7_mustStand 108 = .ok (.getfield 48, 3) := by decide +kernel
theorem dX7_mustStand_111 : decode cX7_mustStand 111 = .ok (.iload_n 2, 1) := by decide +kernel
theorem dX7_mustStand_112 : decode cX7_mustStand 112 = .ok (.iaload, 1) := by decide +kernel
theorem dX7_mustStand_113 : decode cX7_mustStand 113 = .ok (.ifCond .eq 5, 3) := by decide +kernel
theorem dX7_mustStand_116 : decode cX7_mustStand 116 = .ok (.iconst 1, 1) := by decide +kernel
theorem dX7_mustStand_117 : decode cX7_mustStand 117 = .ok (.ireturn, 1) := by decide +kernel
theorem dX7_mustStand_118 : decode cX7_mustStand 118 = .ok (.aload_n 0, 1) := by decide +kernel
theorem dX7_mustStand_119 : decode cX7_mustStand 119 = .ok (.getfield 36, 3) := by decide +kernel
theorem dX7_mustStand_122 : decode cX7_mustStand 122 = .ok (.iload_n 2, 1) := by decide +kernel
theorem dX7_mustStand_123 : decode cX7_mustStand 123 = .ok (.iaload, 1) := by decide +kernel
theorem dX7_mustStand_124 : decode cX7_mustStand 124 = .ok (.iconst 5, 1) := by decide +kernel
theorem dX7_mustStand_125 : decode cX7_mustStand 125 = .ok (.if_icmp .ne 13, 3) := by decide +kernel
theorem dX7_mustStand_128 : decode cX7_mustStand 128 = .ok (.aload_n 0, 1) := by decide +kernel
theorem dX7_mustStand_129 : decode cX7_mustStand 129 = .ok (.getfield 60, 3) := by decide +kernel
theorem dX7_mustStand_132 : decode cX7_mustStand 132 = .ok (.iload_n 2, 1) := by decide +kernel
theorem dX7_mustStand_133 : decode cX7_mustStand 133 = .ok (.iaload, 1) := by decide +kernel
theorem dX7_mustStand_134 : decode cX7_mustStand 134 = .ok (.iload_n 1, 1) := by decide +kernel
theorem dX7_mustStand_135 : decode cX7_mustStand 135 = .ok (.if_icmp .eq 50, 3) := by decide +kernel
theorem dX7_mustStand_138 : decode cX7_mustStand 138 = .ok (.aload_n 0, 1) := by decide +kernel
theorem dX7_mustStand_139 : decode cX7_mustStand 139 = .ok (.getfield 51, 3) := by decide +kernel
theorem dX7_mustStand_142 : decode cX7_mustStand 142 = .ok (.iload_n 2, 1) := by decide +kernel
theorem dX7_mustStand_143 : decode cX7_mustStand 143 = .ok (.iaload, 1) := by decide +kernel
theorem dX7_mustStand_144 : decode cX7_mustStand 144 = .ok (.iload_n 1, 1) := by decide +kernel
theorem dX7_mustStand_145 : decode cX7_mustStand 145 = .ok (.invokestatic 163, 3) := by decide +kernel
theorem dX7_mustStand_148 : decode cX7_mustStand 148 = .ok (.ifCond .ne 37, 3) := by decide +kernel
theorem dX7_mustStand_151 : decode cX7_mustStand 151 = .ok (.aload_n 0, 1) := by decide +kernel
theorem dX7_mustStand_152 : decode cX7_mustStand 152 = .ok (.getfield 54, 3) := by decide +kernel
theorem dX7_mustStand_155 : decode cX7_mustStand 155 = .ok (.iload_n 2, 1) := by decide +kernel
theorem dX7_mustStand_156 : decode cX7_mustStand 156 = .ok (.iaload, 1) := by decide +kernel
theorem dX7_mustStand_157 : decode cX7_mustStand 157 = .ok (.iload_n 1, 1) := by decide +kernel
theorem dX7_mustStand_158 : decode cX7_mustStand 158 = .ok (.invokestatic 163, 3) := by decide +kernel
theorem dX7_mustStand_161 : decode cX7_mustStand 161 = .ok (.ifCond .ne 24, 3) := by decide +kernel
theorem dX7_mustStand_164 : decode cX7_mustStand 164 = .ok (.aload_n 0, 1) := by decide +kernel
theorem dX7_mustStand_165 : decode cX7_mustStand 165 = .ok (.iload_n 2, 1) := by decide +kernel
theorem dX7_mustStand_166 : decode cX7_mustStand 166 = .ok (.invokevirtual 157, 3) := by decide +kernel
theorem dX7_mustStand_169 : decode cX7_mustStand 169 = .ok (.ifCond .eq 18, 3) := by decide +kernel
theorem dX7_mustStand_172 : decode cX7_mustStand 172 = .ok (.aload_n 0, 1) := by decide +kernel
theorem dX7_mustStand_173 : decode cX7_mustStand 173 = .ok (.getfield 57, 3) := by decide +kernel
theorem dX7_mustStand_176 : decode cX7_mustStand 176 = .ok (.iload_n 2, 1) := by decide +kernel
theorem dX7_mustStand_177 : decode cX7_mustStand 177 = .ok (.iaload, 1) := by decide +kernel
theorem dX7_mustStand_178 : decode cX7_mustStand 178 = .ok (.iload_n 1, 1) := by decide +kernel
theorem dX7_mustStand_179 : decode cX7_mustStand 179 = .ok (.invokestatic 163, 3) := by decide +kernel
theorem dX7_mustStand_182 : decode cX7_mustStand 182 = .ok (.ifCond .eq 5, 3) := by decide +kernel
theorem dX7_mustStand_185 : decode cX7_mustStand 185 = .ok (.iconst 1, 1) := by decide +kernel
theorem dX7_mustStand_186 : decode cX7_mustStand 186 = .ok (.ireturn, 1) := by decide +kernel
theorem dX7_mustStand_187 : decode cX7_mustStand 187 = .ok (.iconst 0, 1) := by decide +kernel
theorem dX7_mustStand_188 : decode cX7_mustStand 188 = .ok (.istore 4, 2) := by decide +kernel
theorem dX7_mustStand_190 : decode cX7_mustStand 190 = .ok (.iload_n 1, 1) := by decide +kernel
theorem dX7_mustStand_191 : decode cX7_mustStand 191 = .ok (.iconst 1, 1) := by decide +kernel
theorem dX7_mustStand_192 : decode cX7_mustStand 192 = .ok (.iadd, 1) := by decide +kernel
theorem dX7_mustStand_193 : decode cX7_mustStand 193 = .ok (.istore 5, 2) := by decide +kernel
theorem dX7_mustStand_195 : decode cX7_mustStand 195 = .ok (.iload 5, 2) := by decide +kernel
theorem dX7_mustStand_197 : decode cX7_mustStand 197 = .ok (.iload_n 2, 1) := by decide +kernel
theorem dX7_mustStand_198 : decode cX7_mustStand 198 = .ok (.if_icmp .ge 35, 3) := by decide +kernel
theorem dX7_mustStand_201 : decode cX7_mustStand 201 = .ok (.iload 4, 2) := by decide +kernel
theorem dX7_mustStand_203 : decode cX7_mustStand 203 = .ok (.ifCond .ne 17, 3) := by decide +kernel
theorem dX7_mustStand_206 : decode cX7_mustStand 206 = .ok (.aload_n 0, 1) := by decide +kernel
theorem dX7_mustStand_207 : decode cX7_mustStand 207 = .ok (.getfield 51, 3) := by decide +kernel
theorem dX7_mustStand_210 : decode cX7_mustStand 210 = .ok (.iload 5, 2) := by decide +kernel
theorem dX7_mustStand_212 : decode cX7_mustStand 212 = .ok (.iaload, 1) := by decide +kernel
theorem dX7_mustStand_213 : decode cX7_mustStand 213 = .ok (.iload_n 1, 1) := by decide +kernel
theorem dX7_mustStand_214 : decode cX7_mustStand 214 = .ok (.invokestatic 163, 3) := by decide +kernel
theorem dX7_mustStand_217 : decode cX7_mustStand 217 = .ok (.ifCond .eq 7, 3) := by decide +kernel
theorem dX7_mustStand_220 : decode cX7_mustStand 220 = .ok (.iconst 1, 1) := by decide +kernel
theorem dX7_mustStand_221 : decode cX7_mustStand 221 = .ok (.goto 4, 3) := by decide +kernel
theorem dX7_mustStand_224 : decode cX7_mustStand 224 = .ok (.iconst 0, 1) := by decide +kernel
theorem dX7_mustStand_225 : decode cX7_mustStand 225 = .ok (.istore 4, 2) := by decide +kernel
theorem dX7_mustStand_227 : decode cX7_mustStand 227 = .ok (.iinc 5 1, 3) := by decide +kernel
theorem dX7_mustStand_230 : decode cX7_mustStand 230 = .ok (.goto (-35), 3) := by decide +kernel
theorem dX7_mustStand_233 : decode cX7_mustStand 233 = .ok (.aload_n 0, 1) := by decide +kernel
theorem dX7_mustStand_234 : decode cX7_mustStand 234 = .ok (.iload_n 2, 1) := by decide +kernel
theorem dX7_mustStand_235 : decode cX7_mustStand 235 = .ok (.invokevirtual 157, 3) := by decide +kernel
theorem dX7_mustStand_238 : decode cX7_mustStand 238 = .ok (.ifCond .eq 12, 3) := by decide +kernel
theorem dX7_mustStand_241 : decode cX7_mustStand 241 = .ok (.iload 4, 2) := by decide +kernel
theorem dX7_mustStand_243 : decode cX7_mustStand 243 = .ok (.ifCond .eq 7, 3) := by decide +kernel
theorem dX7_mustStand_246 : decode cX7_mustStand 246 = .ok (.iconst 1, 1) := by decide +kernel
theorem dX7_mustStand_247 : decode cX7_mustStand 247 = .ok (.goto 4, 3) := by decide +kernel
theorem dX7_mustStand_250 : decode cX7_mustStand 250 = .ok (.iconst 0, 1) := by decide +kernel
theorem dX7_mustStand_251 : decode cX7_mustStand 251 = .ok (.ireturn, 1) := by decide +kernel
set_option maxRecDepth 20000 in
theorem ggX7_findMust_X7_mustStand : GoodIn wsX7_findMust wsX7_mustStand := goodIn_r _ [8, 9, 10, 11, 12, 13, 14, 15, 16, 17, 18, 19, 7, 20, 21, 22, 23, 24, 25, 26, 27, 28, 29, 30, 31, 32, 33, 34, 35, 36, 3, 37, 38, 39, 40, 41, 42, 43, 44, 45, 46, 47, 48, 49, 50, 51, 52, 53, 54, 55, 56, 57, 58, 59, 60, 61, 62, 63, 64, 65, 66, 67, 68, 69, 70, 71, 72, 73, 74, 75, 76, 77] (by decide +kernel) (by decide +kernel)
set_option maxRecDepth 20000 in
theorem gX7_findMust_X7_mustStand : GoodIn wsX7_findMust (wsV RX7 166 RX7 yX7_mustStand wsX7_mustStand) := goodIn_app (goodIn_of _ (by decide +kernel)) ggX7_findMust_X7_mustStand
theorem dX7_findMust_0 : decode cX7_findMust 0 = .ok (.iconst 0, 1) := by decide +kernel
theorem dX7_findMust_1 : decode cX7_findMust 1 = .ok (.istore_n 1, 1) := by decide +kernel
theorem dX7_findMust_2 : decode cX7_findMust 2 = .ok (.iload_n 1, 1) := by decide +kernel
theorem dX7_findMust_3 : decode cX7_findMust 3 = .ok (.aload_n 0, 1) := by decide +kernel
theorem dX7_findMust_4 : decode cX7_findMust 4 = .ok (.getfield 128, 3) := by decide +kernel
theorem dX7_findMust_7 : decode cX7_findMust 7 = .ok (.if_icmp .ge 70, 3) := by decide +kernel
theorem dX7_findMust_10 : decode cX7_findMust 10 = .ok (.iconst 0, 1) := by decide +kernel
theorem dX7_findMust_11 : decode cX7_findMust 11 = .ok (.istore_n 2, 1) := by decide +kernel
theorem dX7_findMust_12 : decode cX7_findMust 12 = .ok (.iload_n 2, 1) := by decide +kernel
theorem dX7_findMust_13 : decode cX7_findMust 13 = .ok (.aload_n 0, 1) := by decide +kernel
theorem dX7_findMust_14 : decode cX7_findMust 14 = .ok (.getfield 128, 3) := by decide +kernel
theorem dX7_findMust_17 : decode cX7_findMust 17 = .ok (.if_icmp .ge 54, 3) := by decide +kernel
theorem dX7_findMust_20 : decode cX7_findMust 20 = .ok (.aload_n 0, 1) := by decide +kernel
theorem dX7_findMust_21 : decode cX7_findMust 21 = .ok (.getfield 75, 3) := by decide +kernel
theorem dX7_findMust_24 : decode cX7_findMust 24 = .ok (.bipush 6, 2) := by decide +kernel
theorem dX7_findMust_26 : decode cX7_findMust 26 = .ok (.iload_n 1, 1) := by decide +kernel
theorem dX7_findMust_27 : decode cX7_findMust 27 = .ok (.imul, 1) := by decide +kernel
theorem dX7_findMust_28 : decode cX7_findMust 28 = .ok (.iload_n 2, 1) := by decide +kernel
theorem dX7_findMust_29 : decode cX7_findMust 29 = .ok (.iadd, 1) := by decide +kernel
theorem dX7_findMust_30 : decode cX7_findMust 30 = .ok (.iload_n 1, 1) := by decide +kernel
theorem dX7_findMust_31 : decode cX7_findMust 31 = .ok (.iload_n 2, 1) := by decide +kernel
theorem dX7_findMust_32 : decode cX7_findMust 32 = .ok (.if_icmp .ge 31, 3) := by decide +kernel
theorem dX7_findMust_35 : decode cX7_findMust 35 = .ok (.aload_n 0, 1) := by decide +kernel
theorem dX7_findMust_36 : decode cX7_findMust 36 = .ok (.getfield 33, 3) := by decide +kernel
theorem dX7_findMust_39 : decode cX7_findMust 39 = .ok (.iload_n 1, 1) := by decide +kernel
theorem dX7_findMust_40 : decode cX7_findMust 40 = .ok (.iaload, 1) := by decide +kernel
theorem dX7_findMust_41 : decode cX7_findMust 41 = .ok (.aload_n 0, 1) := by decide +kernel
theorem dX7_findMust_42 : decode cX7_findMust 42 = .ok (.getfield 33, 3) := by decide +kernel
theorem dX7_findMust_45 : decode cX7_findMust 45 = .ok (.iload_n 2, 1) := by decide +kernel
theorem dX7_findMust_46 : decode cX7_findMust 46 = .ok (.iaload, 1) := by decide +kernel
theorem dX7_findMust_47 : decode cX7_findMust 47 = .ok (.if_icmp .ne 16, 3) := by decide +kernel
theorem dX7_findMust_50 : decode cX7_findMust 50 = .ok (.aload_n 0, 1) := by decide +kernel
theorem dX7_findMust_51 : decode cX7_findMust 51 = .ok (.iload_n 1, 1) := by decide +kernel
theorem dX7_findMust_52 : decode cX7_findMust 52 = .ok (.iload_n 2, 1) := by decide +kernel
theorem dX7_findMust_53 : decode cX7_findMust 53 = .ok (.invokevirtual 166, 3) := by decide +kernel
theorem dX7_findMust_56 : decode cX7_findMust 56 = .ok (.ifCond .eq 7, 3) := by decide +kernel
theorem dX7_findMust_59 : decode cX7_findMust 59 = .ok (.iconst 1, 1) := by decide +kernel
theorem dX7_findMust_60 : decode cX7_findMust 60 = .ok (.goto 4, 3) := by decide +kernel
theorem dX7_findMust_63 : decode cX7_findMust 63 = .ok (.iconst 0, 1) := by decide +kernel
theorem dX7_findMust_64 : decode cX7_findMust 64 = .ok (.bastore, 1) := by decide +kernel
theorem dX7_findMust_65 : decode cX7_findMust 65 = .ok (.iinc 2 1, 3) := by decide +kernel
theorem dX7_findMust_68 : decode cX7_findMust 68 = .ok (.goto (-56), 3) := by decide +kernel
theorem dX7_findMust_71 : decode cX7_findMust 71 = .ok (.iinc 1 1, 3) := by decide +kernel
theorem dX7_findMust_74 : decode cX7_findMust 74 = .ok (.goto (-72), 3) := by decide +kernel
theorem dX7_findMust_77 : decode cX7_findMust 77 = .ok (.return_, 1) := by decide +kernel
set_option maxRecDepth 20000 in
theorem ggX7_sourceOf_X7_writes : GoodIn wsX7_sourceOf wsX7_writes := goodIn_r _ [9, 10, 11, 12, 8, 13, 14, 15, 16, 17, 18, 19, 20, 21, 22, 23, 24, 25, 26, 27, 28, 29, 30, 31, 32, 33, 34, 35, 36, 37, 38, 39, 40, 41, 42, 43, 44, 45, 46, 47, 48] (by decide +kernel) (by decide +kernel)
set_option maxRecDepth 20000 in
theorem gX7_sourceOf_X7_writes : GoodIn wsX7_sourceOf (wsV RX7 157 RX7 yX7_writes wsX7_writes) := goodIn_app (goodIn_of _ (by decide +kernel)) ggX7_sourceOf_X7_writes
theorem dX7_sourceOf_0 : decode cX7_sourceOf 0 = .ok (.iconst (-1), 1) := by decide +kernel
theorem dX7_sourceOf_1 : decode cX7_sourceOf 1 = .ok (.istore_n 2, 1) := by decide +kernel
theorem dX7_sourceOf_2 : decode cX7_sourceOf 2 = .ok (.iconst 0, 1) := by decide +kernel
theorem dX7_sourceOf_3 : decode cX7_sourceOf 3 = .ok (.istore_n 3, 1) := by decide +kernel
theorem dX7_sourceOf_4 : decode cX7_sourceOf 4 = .ok (.iload_n 3, 1) := by decide +kernel
theorem dX7_sourceOf_5 : decode cX7_sourceOf 5 = .ok (.aload_n 0, 1) := by decide +kernel
theorem dX7_sourceOf_6 : decode cX7_sourceOf 6 = .ok (.getfield 128, 3) := by decide +kernel
theorem dX7_sourceOf_9 : decode cX7_sourceOf 9 = .ok (.if_icmp .ge 109, 3) := by decide +kernel
theorem dX7_sourceOf_12 : decode cX7_sourceOf 12 = .ok (.iload_n 3, 1) := by decide +kernel
theorem dX7_sourceOf_13 : decode cX7_sourceOf 13 = .ok (.iload_n 1, 1) := by decide +kernel
theorem dX7_sourceOf_14 : decode cX7_sourceOf 14 = .ok (.if_icmp .eq 65, 3) := by decide +kernel
theorem dX7_sourceOf_17 : decode cX7_sourceOf 17 = .ok (.aload_n 0, 1) := by decide +kernel
theorem dX7_sourceOf_18 : decode cX7_sourceOf 18 = .ok (.iload_n 3, 1) := by decide +kernel
theorem dX7_sourceOf_19 : decode cX7_sourceOf 19 = .ok (.invokevirtual 157, 3) := by decide +kernel
theorem dX7_sourceOf_22 : decode cX7_sourceOf 22 = .ok (.ifCond .eq 57, 3) := by decide +kernel
theorem dX7_sourceOf_25 : decode cX7_sourceOf 25 = .ok (.aload_n 0, 1) := by decide +kernel
theorem dX7_sourceOf_26 : decode cX7_sourceOf 26 = .ok (.getfield 39, 3) := by decide +kernel
theorem dX7_sourceOf_29 : decode cX7_sourceOf 29 = .ok (.iload_n 3, 1) := by decide +kernel
theorem dX7_sourceOf_30 : decode cX7_sourceOf 30 = .ok (.iaload, 1) := by decide +kernel
theorem dX7_sourceOf_31 : decode cX7_sourceOf 31 = .ok (.aload_n 0, 1) := by decide +kernel
theorem dX7_sourceOf_32 : decode cX7_sourceOf 32 = .ok (.getfield 39, 3) := by decide +kernel
theorem dX7_sourceOf_35 : decode cX7_sourceOf 35 = .ok (.iload_n 1, 1) := by decide +kernel
theorem dX7_sourceOf_36 : decode cX7_sourceOf 36 = .ok (.iaload, 1) := by decide +kernel
theorem dX7_sourceOf_37 : decode cX7_sourceOf 37 = .ok (.if_icmp .ne 42, 3) := by decide +kernel
theorem dX7_sourceOf_40 : decode cX7_sourceOf 40 = .ok (.aload_n 0, 1) := by decide +kernel
theorem dX7_sourceOf_41 : decode cX7_sourceOf 41 = .ok (.getfield 82, 3) := by decide +kernel
theorem dX7_sourceOf_44 : decode cX7_sourceOf 44 = .ok (.iload_n 3, 1) := by decide +kernel
theorem dX7_sourceOf_45 : decode cX7_sourceOf 45 = .ok (.iaload, 1) := by decide +kernel
theorem dX7_sourceOf_46 : decode cX7_sourceOf 46 = .ok (.aload_n 0, 1) := by decide +kernel
theorem dX7_sourceOf_47 : decode cX7_sourceOf 47 = .ok (.getfield 82, 3) := by decide +kernel
theorem dX7_sourceOf_50 : decode cX7_sourceOf 50 = .ok (.iload_n 1, 1) := by decide +kernel
theorem dX7_sourceOf_51 : decode cX7_sourceOf 51 = .ok (.iaload, 1) := by decide +kernel
theorem dX7_sourceOf_52 : decode cX7_sourceOf 52 = .ok (.if_icmp .lt 23, 3) := by decide +kernel
theorem dX7_sourceOf_55 : decode cX7_sourceOf 55 = .ok (.aload_n 0, 1) := by decide +kernel
theorem dX7_sourceOf_56 : decode cX7_sourceOf 56 = .ok (.getfield 33, 3) := by decide +kernel
theorem dX7_sourceOf_59 : decode cX7_sourceOf 59 = .ok (.iload_n 3, 1) := by decide +kernel
theorem dX7_sourceOf_60 : decode cX7_sourceOf 60 = .ok (.iaload, 1) := by decide +kernel
theorem dX7_sourceOf_61 : decode cX7_sourceOf 61 = .ok (.aload_n 0, 1) := by decide +kernel
theorem dX7_sourceOf_62 : decode cX7_sourceOf 62 = .ok (.getfield 33, 3) := by decide +kernel
theorem dX7_sourceOf_65 : decode cX7_sourceOf 65 = .ok (.iload_n 1, 1) := by decide +kernel
theorem dX7_sourceOf_66 : decode cX7_sourceOf 66 = .ok (.iaload, 1) := by decide +kernel
theorem dX7_sourceOf_67 : decode cX7_sourceOf 67 = .ok (.if_icmp .ne 12, 3) := by decide +kernel
theorem dX7_sourceOf_70 : decode cX7_sourceOf 70 = .ok (.iload_n 3, 1) := by decide +kernel
theorem dX7_sourceOf_71 : decode cX7_sourceOf 71 = .ok (.iload_n 1, 1) := by decide +kernel
theorem dX7_sourceOf_72 : decode cX7_sourceOf 72 = .ok (.if_icmp .ge 7, 3) := by decide +kernel
theorem dX7_sourceOf_75 : decode cX7_sourceOf 75 = .ok (.iconst 1, 1) := by decide +kernel
theorem dX7_sourceOf_76 : decode cX7_sourceOf 76 = .ok (.goto 4, 3) := by decide +kernel
theorem dX7_sourceOf_79 : decode cX7_sourceOf 79 = .ok (.iconst 0, 1) := by decide +kernel
theorem dX7_sourceOf_80 : decode cX7_sourceOf 80 = .ok (.istore 4, 2) := by decide +kernel
theorem dX7_sourceOf_82 : decode cX7_sourceOf 82 = .ok (.iload 4, 2) := by decide +kernel
theorem dX7_sourceOf_84 : decode cX7_sourceOf 84 = .ok (.ifCond .eq 26, 3) := by decide +kernel
theorem dX7_sourceOf_87 : decode cX7_sourceOf 87 = .ok (.iload_n 2, 1) := by decide +kernel
theorem dX7_sourceOf_88 : decode cX7_sourceOf 88 = .ok (.ifCond .lt 18, 3) := by decide +kernel
theorem dX7_sourceOf_91 : decode cX7_sourceOf 91 = .ok (.aload_n 0, 1) := by decide +kernel
theorem dX7_sourceOf_92 : decode cX7_sourceOf 92 = .ok (.getfield 82, 3) := by decide +kernel
theorem dX7_sourceOf_95 : decode cX7_sourceOf 95 = .ok (.iload_n 3, 1) := by decide +kernel
theorem dX7_sourceOf_96 : decode cX7_sourceOf 96 = .ok (.iaload, 1) := by decide +kernel
theorem dX7_sourceOf_97 : decode cX7_sourceOf 97 = .ok (.aload_n 0, 1) := by decide +kernel
theorem dX7_sourceOf_98 : decode cX7_sourceOf 98 = .ok (.getfield 82, 3) := by decide +kernel
theorem dX7_sourceOf_101 : decode cX7_sourceOf 101 = .ok (.iload_n 2, 1) := by decide +kernel
theorem dX7_sourceOf_102 : decode cX7_sourceOf 102 = .ok (.iaload, 1) := by decide +kernel
theorem dX7_sourceOf_103 : decode cX7_sourceOf 103 = .ok (.if_icmp .le 7, 3) := by decide +kernel
theorem dX7_sourceOf_106 : decode cX7_sourceOf 106 = .ok (.iload_n 3, 1) := by decide +kernel
theorem dX7_sourceOf_107 : decode cX7_sourceOf 107 = .ok (.goto 4, 3) := by decide +kernel
theorem dX7_sourceOf_110 : decode cX7_sourceOf 110 = .ok (.iload_n 2, 1) := by decide +kernel
theorem dX7_sourceOf_111 : decode cX7_sourceOf 111 = .ok (.istore_n 2, 1) := by decide +kernel
theorem dX7_sourceOf_112 : decode cX7_sourceOf 112 = .ok (.iinc 3 1, 3) := by decide +kernel
theorem dX7_sourceOf_115 : decode cX7_sourceOf 115 = .ok (.goto (-111), 3) := by decide +kernel
theorem dX7_sourceOf_118 : decode cX7_sourceOf 118 = .ok (.iload_n 2, 1) := by decide +kernel
theorem dX7_sourceOf_119 : decode cX7_sourceOf 119 = .ok (.ireturn, 1) := by decide +kernel
set_option maxRecDepth 20000 in
theorem ggX7_isWriteBetween_X7_writes : GoodIn wsX7_isWriteBetween wsX7_writes := goodIn_r _ [6, 7, 8, 9, 5, 10, 11, 12, 13, 14, 15, 16, 17, 18, 19, 20, 21, 22, 23, 24, 25, 26, 27, 28, 29, 30, 31, 32, 33, 34, 35, 36, 37, 38, 39, 40, 41, 42, 43, 44, 45] (by decide +kernel) (by decide +kernel)
set_option maxRecDepth 20000 in
theorem gX7_isWriteBetween_X7_writes : GoodIn wsX7_isWriteBetween (wsV RX7 157 RX7 yX7_writes wsX7_writes) := goodIn_app (goodIn_of _ (by decide +kernel)) ggX7_isWriteBetween_X7_writes
theorem dX7_isWriteBetween_0 : decode cX7_isWriteBetween 0 = .ok (.iconst 0, 1) := by decide +kernel
theorem dX7_isWriteBetween_1 : decode cX7_isWriteBetween 1 = .ok (.istore_n 3, 1) := by decide +kernel
theorem dX7_isWriteBetween_2 : decode cX7_isWriteBetween 2 = .ok (.iload_n 1, 1) := by decide +kernel
theorem dX7_isWriteBetween_3 : decode cX7_isWriteBetween 3 = .ok (.iconst 1, 1) := by decide +kernel
theorem dX7_isWriteBetween_4 : decode cX7_isWriteBetween 4 = .ok (.iadd, 1) := by decide +kernel
theorem dX7_isWriteBetween_5 : decode cX7_isWriteBetween 5 = .ok (.istore 4, 2) := by decide +kernel
theorem dX7_isWriteBetween_7 : decode cX7_isWriteBetween 7 = .ok (.iload 4, 2) := by decide +kernel
theorem dX7_isWriteBetween_9 : decode cX7_isWriteBetween 9 = .ok (.iload_n 2, 1) := by decide +kernel
theorem dX7_isWriteBetween_10 : decode cX7_isWriteBetween 10 = .ok (.if_icmp .ge 44, 3) := by decide +kernel
theorem dX7_isWriteBetween_13 : decode cX7_isWriteBetween 13 = .ok (.iload_n 3, 1) := by decide +kernel
theorem dX7_isWriteBetween_14 : decode cX7_isWriteBetween 14 = .ok (.ifCond .ne 28, 3) := by decide +kernel
theorem dX7_isWriteBetween_17 : decode cX7_isWriteBetween 17 = .ok (.aload_n 0, 1) := by decide +kernel
theorem dX7_isWriteBetween_18 : decode cX7_isWriteBetween 18 = .ok (.iload 4, 2) := by decide +kernel
theorem dX7_isWriteBetween_20 : decode cX7_isWriteBetween 20 = .ok (.invokevirtual 157, 3) := by decide +kernel
theorem dX7_isWriteBetween_23 : decode cX7_isWriteBetween 23 = .ok (.ifCond .eq 23, 3) := by decide +kernel
theorem dX7_isWriteBetween_26 : decode cX7_isWriteBetween 26 = .ok (.aload_n 0, 1) := by decide +kernel
theorem dX7_isWriteBetween_27 : decode cX7_isWriteBetween 27 = .ok (.getfield 39, 3) := by decide +kernel
theorem dX7_isWriteBetween_30 : decode cX7_isWriteBetween 30 = .ok (.iload 4, 2) := by decide +kernel
theorem dX7_isWriteBetween_32 : decode cX7_isWriteBetween 32 = .ok (.iaload, 1) := by decide +kernel
theorem dX7_isWriteBetween_33 : decode cX7_isWriteBetween 33 = .ok (.aload_n 0, 1) := by decide +kernel
theorem dX7_isWriteBetween_34 : decode cX7_isWriteBetween 34 = .ok (.getfield 39, 3) := by decide +kernel
theorem dX7_isWriteBetween_37 : decode cX7_isWriteBetween 37 = .ok (.iload_n 1, 1) := by decide +kernel
theorem dX7_isWriteBetween_38 : decode cX7_isWriteBetween 38 = .ok (.iaload, 1) := by decide +kernel
theorem dX7_isWriteBetween_39 : decode cX7_isWriteBetween 39 = .ok (.if_icmp .ne 7, 3) := by decide +kernel
theorem dX7_isWriteBetween_42 : decode cX7_isWriteBetween 42 = .ok (.iconst 1, 1) := by decide +kernel
theorem dX7_isWriteBetween_43 : decode cX7_isWriteBetween 43 = .ok (.goto 4, 3) := by decide +kernel
theorem dX7_isWriteBetween_46 : decode cX7_isWriteBetween 46 = .ok (.iconst 0, 1) := by decide +kernel
theorem dX7_isWriteBetween_47 : decode cX7_isWriteBetween 47 = .ok (.istore_n 3, 1) := by decide +kernel
theorem dX7_isWriteBetween_48 : decode cX7_isWriteBetween 48 = .ok (.iinc 4 1, 3) := by decide +kernel
theorem dX7_isWriteBetween_51 : decode cX7_isWriteBetween 51 = .ok (.goto (-44), 3) := by decide +kernel
theorem dX7_isWriteBetween_54 : decode cX7_isWriteBetween 54 = .ok (.iload_n 3, 1) := by decide +kernel
theorem dX7_isWriteBetween_55 : decode cX7_isWriteBetween 55 = .ok (.ireturn, 1) := by decide +kernel
set_option maxRecDepth 20000 in
theorem ggX7_isAsked_X7_reads : GoodIn wsX7_isAsked wsX7_reads := goodIn_r _ [11, 3, 12, 13, 10, 14, 29, 30, 31, 32, 33, 34, 35, 36, 37, 38, 39, 40, 41, 42, 43, 44, 45, 46, 47, 48, 49, 50, 51, 52, 53, 54, 55, 56, 57, 58, 59, 60, 61, 62, 63] (by decide +kernel) (by decide +kernel)
set_option maxRecDepth 20000 in
theorem gX7_isAsked_X7_reads : GoodIn wsX7_isAsked (wsV RX7 154 RX7 yX7_reads wsX7_reads) := goodIn_app (goodIn_of _ (by decide +kernel)) ggX7_isAsked_X7_reads
set_option maxRecDepth 20000 in
theorem ggX7_isAsked_X7_isWriteBetween : GoodIn wsX7_isAsked wsX7_isWriteBetween := goodIn_r _ [18, 1, 19, 20, 21, 10, 22, 3, 23, 24, 25, 29, 30, 31, 32, 33, 34, 35, 36, 37, 38, 39, 40, 41, 42, 43, 44, 45, 46, 47, 48, 49, 50, 51, 52, 53, 54, 55, 56, 57, 58, 59, 60, 61, 62, 63] (by decide +kernel) (by decide +kernel)
set_option maxRecDepth 20000 in
theorem gX7_isAsked_X7_isWriteBetween : GoodIn wsX7_isAsked (wsV RX7 169 RX7 yX7_isWriteBetween wsX7_isWriteBetween) := goodIn_app (goodIn_of _ (by decide +kernel)) ggX7_isAsked_X7_isWriteBetween
set_option maxRecDepth 20000 in
theorem ggX7_isAsked_X7_needs : GoodIn wsX7_isAsked wsX7_needs := goodIn_r _ [28] (by decide +kernel) (by decide +kernel)
set_option maxRecDepth 20000 in
theorem gX7_isAsked_X7_needs : GoodIn wsX7_isAsked (va_wsS RX7 163 yX7_needs wsX7_needs) := goodIn_app (goodIn_of _ (by decide +kernel)) ggX7_isAsked_X7_needs
theorem dX7_isAsked_0 : decode cX7_isAsked 0 = .ok (.aload_n 0, 1) := by decide +kernel
theorem dX7_isAsked_1 : decode cX7_isAsked 1 = .ok (.getfield 39, 3) := by decide +kernel
theorem dX7_isAsked_4 : decode cX7_isAsked 4 = .ok (.iload_n 1, 1) := by decide +kernel
theorem dX7_isAsked_5 : decode cX7_isAsked 5 = .ok (.iaload, 1) := by decide +kernel
theorem dX7_isAsked_6 : decode cX7_isAsked 6 = .ok (.aload_n 0, 1) := by decide +kernel
theorem dX7_isAsked_7 : decode cX7_isAsked 7 = .ok (.getfield 39, 3) := by decide +kernel
theorem dX7_isAsked_10 : decode cX7_isAsked 10 = .ok (.iload_n 2, 1) := by decide +kernel
theorem dX7_isAsked_11 : decode cX7_isAsked 11 = .ok (.iaload, 1) := by decide +kernel
theorem dX7_isAsked_12 : decode cX7_isAsked 12 = .ok (.if_icmp .ne 7, 3) := by decide +kernel
theorem dX7_isAsked_15 : decode cX7_isAsked 15 = .ok (.iconst 1, 1) := by decide +kernel
theorem dX7_isAsked_16 : decode cX7_isAsked 16 = .ok (.goto 4, 3) := by decide +kernel
theorem dX7_isAsked_19 : decode cX7_isAsked 19 = .ok (.iconst 0, 1) := by decide +kernel
theorem dX7_isAsked_20 : decode cX7_isAsked 20 = .ok (.istore_n 3, 1) := by decide +kernel
theorem dX7_isAsked_21 : decode cX7_isAsked 21 = .ok (.aload_n 0, 1) := by decide +kernel
theorem dX7_isAsked_22 : decode cX7_isAsked 22 = .ok (.iload_n 1, 1) := by decide +kernel
theorem dX7_isAsked_23 : decode cX7_isAsked 23 = .ok (.invokevirtual 154, 3) := by decide +kernel
theorem dX7_isAsked_26 : decode cX7_isAsked 26 = .ok (.ifCond .eq 33, 3) := by decide +kernel
theorem dX7_isAsked_29 : decode cX7_isAsked 29 = .ok (.iload_n 3, 1) := by decide +kernel
theorem dX7_isAsked_30 : decode cX7_isAsked 30 = .ok (.ifCond .eq 29, 3) := by decide +kernel
theorem dX7_isAsked_33 : decode cX7_isAsked 33 = .ok (.aload_n 0, 1) := by decide +kernel
theorem dX7_isAsked_34 : decode cX7_isAsked 34 = .ok (.iload_n 1, 1) := by decide +kernel
theorem dX7_isAsked_35 : decode cX7_isAsked 35 = .ok (.iload_n 2, 1) := by decide +kernel
theorem dX7_isAsked_36 : decode cX7_isAsked 36 = .ok (.invokevirtual 169, 3) := by decide +kernel
theorem dX7_isAsked_39 : decode cX7_isAsked 39 = .ok (.ifCond .ne 20, 3) := by decide +kernel
theorem dX7_isAsked_42 : decode cX7_isAsked 42 = .ok (.aload_n 0, 1) := by decide +kernel
theorem dX7_isAsked_43 : decode cX7_isAsked 43 = .ok (.getfield 85, 3) := by decide +kernel
theorem dX7_isAsked_46 : decode cX7_isAsked 46 = .ok (.iload_n 1, 1) := by decide +kernel
theorem dX7_isAsked_47 : decode cX7_isAsked 47 = .ok (.iaload, 1) := by decide +kernel
theorem dX7_isAsked_48 : decode cX7_isAsked 48 = .ok (.aload_n 0, 1) := by decide +kernel
theorem dX7_isAsked_49 : decode cX7_isAsked 49 = .ok (.getfield 85, 3) := by decide +kernel
theorem dX7_isAsked_52 : decode cX7_isAsked 52 = .ok (.iload_n 2, 1) := by decide +kernel
theorem dX7_isAsked_53 : decode cX7_isAsked 53 = .ok (.iaload, 1) := by decide +kernel
theorem dX7_isAsked_54 : decode cX7_isAsked 54 = .ok (.if_icmp .eq 5, 3) := by decide +kernel
theorem dX7_isAsked_57 : decode cX7_isAsked 57 = .ok (.iconst 1, 1) := by decide +kernel
theorem dX7_isAsked_58 : decode cX7_isAsked 58 = .ok (.ireturn, 1) := by decide +kernel
theorem dX7_isAsked_59 : decode cX7_isAsked 59 = .ok (.aload_n 0, 1) := by decide +kernel
theorem dX7_isAsked_60 : decode cX7_isAsked 60 = .ok (.getfield 36, 3) := by decide +kernel
theorem dX7_isAsked_63 : decode cX7_isAsked 63 = .ok (.iload_n 1, 1) := by decide +kernel
theorem dX7_isAsked_64 : decode cX7_isAsked 64 = .ok (.iaload, 1) := by decide +kernel
theorem dX7_isAsked_65 : decode cX7_isAsked 65 = .ok (.iconst 2, 1) := by decide +kernel
theorem dX7_isAsked_66 : decode cX7_isAsked 66 = .ok (.if_icmp .eq 23, 3) := by decide +kernel
theorem dX7_isAsked_69 : decode cX7_isAsked 69 = .ok (.aload_n 0, 1) := by decide +kernel
theorem dX7_isAsked_70 : decode cX7_isAsked 70 = .ok (.getfield 36, 3) := by decide +kernel
theorem dX7_isAsked_73 : decode cX7_isAsked 73 = .ok (.iload_n 1, 1) := by decide +kernel
theorem dX7_isAsked_74 : decode cX7_isAsked 74 = .ok (.iaload, 1) := by decide +kernel
theorem dX7_isAsked_75 : decode cX7_isAsked 75 = .ok (.iconst 3, 1) := by decide +kernel
theorem dX7_isAsked_76 : decode cX7_isAsked 76 = .ok (.if_icmp .eq 13, 3) := by decide +kernel
theorem dX7_isAsked_79 : decode cX7_isAsked 79 = .ok (.aload_n 0, 1) := by decide +kernel
theorem dX7_isAsked_80 : decode cX7_isAsked 80 = .ok (.getfield 36, 3) := by decide +kernel
theorem dX7_isAsked_83 : decode cX7_isAsked 83 = .ok (.iload_n 1, 1) := by decide +kernel
theorem dX7_isAsked_84 : decode cX7_isAsked 84 = .ok (.iaload, 1) := by decide +kernel
theorem dX7_isAsked_85 : decode cX7_isAsked 85 = .ok (.iconst 5, 1) := by decide +kernel
theorem dX7_isAsked_86 : decode cX7_isAsked 86 = .ok (.if_icmp .ne 7, 3) := by decide +kernel
theorem dX7_isAsked_89 : decode cX7_isAsked 89 = .ok (.iconst 1, 1) := by decide +kernel
theorem dX7_isAsked_90 : decode cX7_isAsked 90 = .ok (.goto 4, 3) := by decide +kernel
theorem dX7_isAsked_93 : decode cX7_isAsked 93 = .ok (.iconst 0, 1) := by decide +kernel
theorem dX7_isAsked_94 : decode cX7_isAsked 94 = .ok (.istore 4, 2) := by decide +kernel
theorem dX7_isAsked_96 : decode cX7_isAsked 96 = .ok (.iload 4, 2) := by decide +kernel
theorem dX7_isAsked_98 : decode cX7_isAsked 98 = .ok (.ifCond .eq 15, 3) := by decide +kernel
theorem dX7_isAsked_101 : decode cX7_isAsked 101 = .ok (.aload_n 0, 1) := by decide +kernel
theorem dX7_isAsked_102 : decode cX7_isAsked 102 = .ok (.getfield 85, 3) := by decide +kernel
theorem dX7_isAsked_105 : decode cX7_isAsked 105 = .ok (.iload_n 2, 1) := by decide +kernel
theorem dX7_isAsked_106 : decode cX7_isAsked 106 = .ok (.iaload, 1) := by decide +kernel
theorem dX7_isAsked_107 : decode cX7_isAsked 107 = .ok (.iload_n 1, 1) := by decide +kernel
theorem dX7_isAsked_108 : decode cX7_isAsked 108 = .ok (.if_icmp .ne 5, 3) := by decide +kernel
theorem dX7_isAsked_111 : decode cX7_isAsked 111 = .ok (.iconst 1, 1) := by decide +kernel
theorem dX7_isAsked_112 : decode cX7_isAsked 112 = .ok (.ireturn, 1) := by decide +kernel
theorem dX7_isAsked_113 : decode cX7_isAsked 113 = .ok (.aload_n 0, 1) := by decide +kernel
theorem dX7_isAsked_114 : decode cX7_isAsked 114 = .ok (.getfield 85, 3) := by decide +kernel
theorem dX7_isAsked_117 : decode cX7_isAsked 117 = .ok (.iload_n 2, 1) := by decide +kernel
theorem dX7_isAsked_118 : decode cX7_isAsked 118 = .ok (.iaload, 1) := by decide +kernel
theorem dX7_isAsked_119 : decode cX7_isAsked 119 = .ok (.istore 5, 2) := by decide +kernel
theorem dX7_isAsked_121 : decode cX7_isAsked 121 = .ok (.iload 5, 2) := by decide +kernel
theorem dX7_isAsked_123 : decode cX7_isAsked 123 = .ok (.iload_n 1, 1) := by decide +kernel
theorem dX7_isAsked_124 : decode cX7_isAsked 124 = .ok (.if_icmp .le 57, 3) := by decide +kernel
theorem dX7_isAsked_127 : decode cX7_isAsked 127 = .ok (.iload 5, 2) := by decide +kernel
theorem dX7_isAsked_129 : decode cX7_isAsked 129 = .ok (.iload_n 2, 1) := by decide +kernel
theorem dX7_isAsked_130 : decode cX7_isAsked 130 = .ok (.if_icmp .ge 51, 3) := by decide +kernel
theorem dX7_isAsked_133 : decode cX7_isAsked 133 = .ok (.aload_n 0, 1) := by decide +kernel
theorem dX7_isAsked_134 : decode cX7_isAsked 134 = .ok (.getfield 33, 3) := by decide +kernel
theorem dX7_isAsked_137 : decode cX7_isAsked 137 = .ok (.iload 5, 2) := by decide +kernel
theorem dX7_isAsked_139 : decode cX7_isAsked 139 = .ok (.iaload, 1) := by decide +kernel
theorem dX7_isAsked_140 : decode cX7_isAsked 140 = .ok (.aload_n 0, 1) := by decide +kernel
theorem dX7_isAsked_141 : decode cX7_isAsked 141 = .ok (.getfield 33, 3) := by decide +kernel
theorem dX7_isAsked_144 : decode cX7_isAsked 144 = .ok (.iload_n 1, 1) := by decide +kernel
theorem dX7_isAsked_145 : decode cX7_isAsked 145 = .ok (.iaload, 1) := by decide +kernel
theorem dX7_isAsked_146 : decode cX7_isAsked 146 = .ok (.if_icmp .ne 35, 3) := by decide +kernel
theorem dX7_isAsked_149 : decode cX7_isAsked 149 = .ok (.aload_n 0, 1) := by decide +kernel
theorem dX7_isAsked_150 : decode cX7_isAsked 150 = .ok (.getfield 51, 3) := by decide +kernel
theorem dX7_isAsked_153 : decode cX7_isAsked 153 = .ok (.iload 5, 2) := by decide +kernel
theorem dX7_isAsked_155 : decode cX7_isAsked 155 = .ok (.iaload, 1) := by decide +kernel
theorem dX7_isAsked_156 : decode cX7_isAsked 156 = .ok (.iload_n 1, 1) := by decide +kernel
theorem dX7_isAsked_157 : decode cX7_isAsked 157 = .ok (.invokestatic 163, 3) := by decide +kernel
theorem dX7_isAsked_160 : decode cX7_isAsked 160 = .ok (.ifCond .ne 17, 3) := by decide +kernel
theorem dX7_isAsked_163 : decode cX7_isAsked 163 = .ok (.aload_n 0, 1) := by decide +kernel
theorem dX7_isAsked_164 : decode cX7_isAsked 164 = .ok (.getfield 54, 3) := by decide +kernel
theorem dX7_isAsked_167 : decode cX7_isAsked 167 = .ok (.iload 5, 2) := by decide +kernel
theorem dX7_isAsked_169 : decode cX7_isAsked 169 = .ok (.iaload, 1) := by decide +kernel
theorem dX7_isAsked_170 : decode cX7_isAsked 170 = .ok (.iload_n 1, 1) := by decide +kernel
theorem dX7_isAsked_171 : decode cX7_isAsked 171 = .ok (.invokestatic 163, 3) := by decide +kernel
theorem dX7_isAsked_174 : decode cX7_isAsked 174 = .ok (.ifCond .eq 7, 3) := by decide +kernel
theorem dX7_isAsked_177 : decode cX7_isAsked 177 = .ok (.iconst 1, 1) := by decide +kernel
theorem dX7_isAsked_178 : decode cX7_isAsked 178 = .ok (.goto 4, 3) := by decide +kernel
theorem dX7_isAsked_181 : decode cX7_isAsked 181 = .ok (.iconst 0, 1) := by decide +kernel
theorem dX7_isAsked_182 : decode cX7_isAsked 182 = .ok (.ireturn, 1) := by decide +kernel
set_option maxRecDepth 20000 in
theorem ggX7_isAtomic_X7_writes : GoodIn wsX7_isAtomic wsX7_writes := goodIn_r _ [11, 12, 13, 14, 10, 15, 16, 17, 18, 19, 20, 21, 22, 23, 24, 25, 26, 27, 28, 29, 30, 31, 32, 33, 34, 35, 36, 37, 38, 39, 40, 41, 42, 43, 44, 45, 46, 47, 48, 49, 50] (by decide +kernel) (by decide +kernel)
set_option maxRecDepth 20000 in
theorem gX7_isAtomic_X7_writes : GoodIn wsX7_isAtomic (wsV RX7 157 RX7 yX7_writes wsX7_writes) := goodIn_app (goodIn_of _ (by decide +kernel)) ggX7_isAtomic_X7_writes
theorem dX7_isAtomic_0 : decode cX7_isAtomic 0 = .ok (.aload_n 0, 1) := by decide +kernel
theorem dX7_isAtomic_1 : decode cX7_isAtomic 1 = .ok (.getfield 60, 3) := by decide +kernel
theorem dX7_isAtomic_4 : decode cX7_isAtomic 4 = .ok (.iload_n 1, 1) := by decide +kernel
theorem dX7_isAtomic_5 : decode cX7_isAtomic 5 = .ok (.iaload, 1) := by decide +kernel
theorem dX7_isAtomic_6 : decode cX7_isAtomic 6 = .ok (.istore_n 2, 1) := by decide +kernel
theorem dX7_isAtomic_7 : decode cX7_isAtomic 7 = .ok (.aload_n 0, 1) := by decide +kernel
theorem dX7_isAtomic_8 : decode cX7_isAtomic 8 = .ok (.getfield 85, 3) := by decide +kernel
theorem dX7_isAtomic_11 : decode cX7_isAtomic 11 = .ok (.iload_n 2, 1) := by decide +kernel
theorem dX7_isAtomic_12 : decode cX7_isAtomic 12 = .ok (.iaload, 1) := by decide +kernel
theorem dX7_isAtomic_13 : decode cX7_isAtomic 13 = .ok (.istore_n 3, 1) := by decide +kernel
theorem dX7_isAtomic_14 : decode cX7_isAtomic 14 = .ok (.iload_n 3, 1) := by decide +kernel
theorem dX7_isAtomic_15 : decode cX7_isAtomic 15 = .ok (.ifCond .ge 7, 3) := by decide +kernel
theorem dX7_isAtomic_18 : decode cX7_isAtomic 18 = .ok (.iconst (-1), 1) := by decide +kernel
theorem dX7_isAtomic_19 : decode cX7_isAtomic 19 = .ok (.goto 9, 3) := by decide +kernel
theorem dX7_isAtomic_22 : decode cX7_isAtomic 22 = .ok (.aload_n 0, 1) := by decide +kernel
theorem dX7_isAtomic_23 : decode cX7_isAtomic 23 = .ok (.getfield 82, 3) := by decide +kernel
theorem dX7_isAtomic_26 : decode cX7_isAtomic 26 = .ok (.iload_n 3, 1) := by decide +kernel
theorem dX7_isAtomic_27 : decode cX7_isAtomic 27 = .ok (.iaload, 1) := by decide +kernel
theorem dX7_isAtomic_28 : decode cX7_isAtomic 28 = .ok (.istore 4, 2) := by decide +kernel
theorem dX7_isAtomic_30 : decode cX7_isAtomic 30 = .ok (.iload 4, 2) := by decide +kernel
theorem dX7_isAtomic_32 : decode cX7_isAtomic 32 = .ok (.aload_n 0, 1) := by decide +kernel
theorem dX7_isAtomic_33 : decode cX7_isAtomic 33 = .ok (.getfield 82, 3) := by decide +kernel
theorem dX7_isAtomic_36 : decode cX7_isAtomic 36 = .ok (.iload_n 1, 1) := by decide +kernel
theorem dX7_isAtomic_37 : decode cX7_isAtomic 37 = .ok (.iaload, 1) := by decide +kernel
theorem dX7_isAtomic_38 : decode cX7_isAtomic 38 = .ok (.if_icmp .ge 7, 3) := by decide +kernel
theorem dX7_isAtomic_41 : decode cX7_isAtomic 41 = .ok (.iconst 1, 1) := by decide +kernel
theorem dX7_isAtomic_42 : decode cX7_isAtomic 42 = .ok (.goto 4, 3) := by decide +kernel
theorem dX7_isAtomic_45 : decode cX7_isAtomic 45 = .ok (.iconst 0, 1) := by decide +kernel
theorem dX7_isAtomic_46 : decode cX7_isAtomic 46 = .ok (.istore 5, 2) := by decide +kernel
theorem dX7_isAtomic_48 : decode cX7_isAtomic 48 = .ok (.iconst 0, 1) := by decide +kernel
theorem dX7_isAtomic_49 : decode cX7_isAtomic 49 = .ok (.istore 6, 2) := by decide +kernel
theorem dX7_isAtomic_51 : decode cX7_isAtomic 51 = .ok (.iload 6, 2) := by decide +kernel
theorem dX7_isAtomic_53 : decode cX7_isAtomic 53 = .ok (.aload_n 0, 1) := by decide +kernel
theorem dX7_isAtomic_54 : decode cX7_isAtomic 54 = .ok (.getfield 128, 3) := by decide +kernel
theorem dX7_isAtomic_57 : decode cX7_isAtomic 57 = .ok (.if_icmp .ge 108, 3) := by decide +kernel
theorem dX7_isAtomic_60 : decode cX7_isAtomic 60 = .ok (.iload 5, 2) := by decide +kernel
theorem dX7_isAtomic_62 : decode cX7_isAtomic 62 = .ok (.ifCond .eq 103, 3) := by decide +kernel
theorem dX7_isAtomic_65 : decode cX7_isAtomic 65 = .ok (.iload 6, 2) := by decide +kernel
theorem dX7_isAtomic_67 : decode cX7_isAtomic 67 = .ok (.iload_n 3, 1) := by decide +kernel
theorem dX7_isAtomic_68 : decode cX7_isAtomic 68 = .ok (.if_icmp .eq 48, 3) := by decide +kernel
theorem dX7_isAtomic_71 : decode cX7_isAtomic 71 = .ok (.aload_n 0, 1) := by decide +kernel
theorem dX7_isAtomic_72 : decode cX7_isAtomic 72 = .ok (.iload 6, 2) := by decide +kernel
theorem dX7_isAtomic_74 : decode cX7_isAtomic 74 = .ok (.invokevirtual 157, 3) := by decide +kernel
theorem dX7_isAtomic_77 : decode cX7_isAtomic 77 = .ok (.ifCond .eq 39, 3) := by decide +kernel
theorem dX7_isAtomic_80 : decode cX7_isAtomic 80 = .ok (.aload_n 0, 1) := by decide +kernel
theorem dX7_isAtomic_81 : decode cX7_isAtomic 81 = .ok (.getfield 33, 3) := by decide +kernel
theorem dX7_isAtomic_84 : decode cX7_isAtomic 84 = .ok (.iload 6, 2) := by decide +kernel
theorem dX7_isAtomic_86 : decode cX7_isAtomic 86 = .ok (.iaload, 1) := by decide +kernel
theorem dX7_isAtomic_87 : decode cX7_isAtomic 87 = .ok (.aload_n 0, 1) := by decide +kernel
theorem dX7_isAtomic_88 : decode cX7_isAtomic 88 = .ok (.getfield 33, 3) := by decide +kernel
theorem dX7_isAtomic_91 : decode cX7_isAtomic 91 = .ok (.iload_n 1, 1) := by decide +kernel
theorem dX7_isAtomic_92 : decode cX7_isAtomic 92 = .ok (.iaload, 1) := by decide +kernel
theorem dX7_isAtomic_93 : decode cX7_isAtomic 93 = .ok (.if_icmp .eq 23, 3) := by decide +kernel
theorem dX7_isAtomic_96 : decode cX7_isAtomic 96 = .ok (.aload_n 0, 1) := by decide +kernel
theorem dX7_isAtomic_97 : decode cX7_isAtomic 97 = .ok (.getfield 39, 3) := by decide +kernel
theorem dX7_isAtomic_100 : decode cX7_isAtomic 100 = .ok (.iload 6, 2) := by decide +kernel
theorem dX7_isAtomic_102 : decode cX7_isAtomic 102 = .ok (.iaload, 1) := by decide +kernel
theorem dX7_isAtomic_103 : decode cX7_isAtomic 103 = .ok (.aload_n 0, 1) := by decide +kernel
theorem dX7_isAtomic_104 : decode cX7_isAtomic 104 = .ok (.getfield 39, 3) := by decide +kernel
theorem dX7_isAtomic_107 : decode cX7_isAtomic 107 = .ok (.iload_n 1, 1) := by decide +kernel
theorem dX7_isAtomic_108 : decode cX7_isAtomic 108 = .ok (.iaload, 1) := by decide +kernel
theorem dX7_isAtomic_109 : decode cX7_isAtomic 109 = .ok (.if_icmp .ne 7, 3) := by decide +kernel
theorem dX7_isAtomic_112 : decode cX7_isAtomic 112 = .ok (.iconst 1, 1) := by decide +kernel
theorem dX7_isAtomic_113 : decode cX7_isAtomic 113 = .ok (.goto 4, 3) := by decide +kernel
theorem dX7_isAtomic_116 : decode cX7_isAtomic 116 = .ok (.iconst 0, 1) := by decide +kernel
theorem dX7_isAtomic_117 : decode cX7_isAtomic 117 = .ok (.istore 7, 2) := by decide +kernel
theorem dX7_isAtomic_119 : decode cX7_isAtomic 119 = .ok (.iload 7, 2) := by decide +kernel
theorem dX7_isAtomic_121 : decode cX7_isAtomic 121 = .ok (.ifCond .eq 31, 3) := by decide +kernel
theorem dX7_isAtomic_124 : decode cX7_isAtomic 124 = .ok (.aload_n 0, 1) := by decide +kernel
theorem dX7_isAtomic_125 : decode cX7_isAtomic 125 = .ok (.getfield 82, 3) := by decide +kernel
theorem dX7_isAtomic_128 : decode cX7_isAtomic 128 = .ok (.iload 6, 2) := by decide +kernel
theorem dX7_isAtomic_130 : decode cX7_isAtomic 130 = .ok (.iaload, 1) := by decide +kernel
theorem dX7_isAtomic_131 : decode cX7_isAtomic 131 = .ok (.iload 4, 2) := by decide +kernel
theorem dX7_isAtomic_133 : decode cX7_isAtomic 133 = .ok (.if_icmp .lt 19, 3) := by decide +kernel
theorem dX7_isAtomic_136 : decode cX7_isAtomic 136 = .ok (.aload_n 0, 1) := by decide +kernel
theorem dX7_isAtomic_137 : decode cX7_isAtomic 137 = .ok (.getfield 82, 3) := by decide +kernel
theorem dX7_isAtomic_140 : decode cX7_isAtomic 140 = .ok (.iload 6, 2) := by decide +kernel
theorem dX7_isAtomic_142 : decode cX7_isAtomic 142 = .ok (.iaload, 1) := by decide +kernel
theorem dX7_isAtomic_143 : decode cX7_isAtomic 143 = .ok (.aload_n 0, 1) := by decide +kernel
theorem dX7_isAtomic_144 : decode cX7_isAtomic 144 = .ok (.getfield 82, 3) := by decide +kernel
theorem dX7_isAtomic_147 : decode cX7_isAtomic 147 = .ok (.iload_n 1, 1) := by decide +kernel
theorem dX7_isAtomic_148 : decode cX7_isAtomic 148 = .ok (.iaload, 1) := by decide +kernel
theorem dX7_isAtomic_149 : decode cX7_isAtomic 149 = .ok (.if_icmp .le 7, 3) := by decide +kernel
theorem dX7_isAtomic_152 : decode cX7_isAtomic 152 = .ok (.iconst 1, 1) := by decide +kernel
theorem dX7_isAtomic_153 : decode cX7_isAtomic 153 = .ok (.goto 4, 3) := by decide +kernel
theorem dX7_isAtomic_156 : decode cX7_isAtomic 156 = .ok (.iconst 0, 1) := by decide +kernel
theorem dX7_isAtomic_157 : decode cX7_isAtomic 157 = .ok (.istore 5, 2) := by decide +kernel
theorem dX7_isAtomic_159 : decode cX7_isAtomic 159 = .ok (.iinc 6 1, 3) := by decide +kernel
theorem dX7_isAtomic_162 : decode cX7_isAtomic 162 = .ok (.goto (-111), 3) := by decide +kernel
theorem dX7_isAtomic_165 : decode cX7_isAtomic 165 = .ok (.iload 5, 2) := by decide +kernel
theorem dX7_isAtomic_167 : decode cX7_isAtomic 167 = .ok (.ireturn, 1) := by decide +kernel
set_option maxRecDepth 20000 in
theorem ggX7_isOrder_X7_reads : GoodIn wsX7_isOrder wsX7_reads := goodIn_r _ [13, 8, 14, 15, 12, 16, 47, 48, 49, 50, 51, 52, 53, 54, 55, 56, 57, 58, 59, 60, 61, 62, 63, 64, 65, 66, 67, 68, 69, 70, 71, 72, 73, 74, 75, 76, 77, 78, 79, 80, 81] (by decide +kernel) (by decide +kernel)
set_option maxRecDepth 20000 in
theorem gX7_isOrder_X7_reads : GoodIn wsX7_isOrder (wsV RX7 154 RX7 yX7_reads wsX7_reads) := goodIn_app (goodIn_of _ (by decide +kernel)) ggX7_isOrder_X7_reads
set_option maxRecDepth 20000 in
theorem ggX7_isOrder_X7_sourceOf : GoodIn wsX7_isOrder wsX7_sourceOf := goodIn_r _ [20, 1, 21, 3, 7, 22, 23, 24, 12, 25, 8, 26, 27, 28, 47, 48, 49, 50, 51, 52, 53, 54, 55, 56, 57, 58, 59, 60, 61, 62, 63, 64, 65, 66, 67, 68, 69, 70, 71, 72, 73, 74, 75, 76, 77, 78, 79, 80, 81] (by decide +kernel) (by decide +kernel)
set_option maxRecDepth 20000 in
theorem gX7_isOrder_X7_sourceOf : GoodIn wsX7_isOrder (wsV RX7 172 RX7 yX7_sourceOf wsX7_sourceOf) := goodIn_app (goodIn_of _ (by decide +kernel)) ggX7_isOrder_X7_sourceOf
set_option maxRecDepth 20000 in
theorem ggX7_isOrder_X7_isAsked : GoodIn wsX7_isOrder wsX7_isAsked := goodIn_r _ [32, 21, 4, 8, 7, 33, 34, 9, 10, 11, 12, 13, 14, 15, 16, 35, 36, 37, 38, 22, 23, 24, 25, 26, 27, 28, 39, 40, 41, 47, 48, 49, 50, 51, 52, 53, 54, 55, 56, 57, 58, 59, 60, 61, 62, 63, 64, 65, 66, 67, 68, 69, 70, 71, 72, 73, 74, 75, 76, 77, 78, 79, 80, 81] (by decide +kernel) (by decide +kernel)
set_option maxRecDepth 20000 in
theorem gX7_isOrder_X7_isAsked : GoodIn wsX7_isOrder (wsV RX7 175 RX7 yX7_isAsked wsX7_isAsked) := goodIn_app (goodIn_of _ (by decide +kernel)) ggX7_isOrder_X7_isAsked
set_option maxRecDepth 20000 in
theorem ggX7_isOrder_X7_isAtomic : GoodIn wsX7_isOrder wsX7_isAtomic := goodIn_r _ [45, 46, 4, 3, 1, 7, 21, 22, 23, 24, 12, 25, 8, 26, 27, 28, 47, 48, 49, 50, 51, 52, 53, 54, 55, 56, 57, 58, 59, 60, 61, 62, 63, 64, 65, 66, 67, 68, 69, 70, 71, 72, 73, 74, 75, 76, 77, 78, 79, 80, 81] (by decide +kernel) (by decide +kernel)
set_option maxRecDepth 20000 in
theorem gX7_isOrder_X7_isAtomic : GoodIn wsX7_isOrder (wsV RX7 178 RX7 yX7_isAtomic wsX7_isAtomic) := goodIn_app (goodIn_of _ (by decide +kernel)) ggX7_isOrder_X7_isAtomic
theorem dX7_isOrder_0 : decode cX7_isOrder 0 = .ok (.iconst 0, 1) := by decide +kernel
theorem dX7_isOrder_1 : decode cX7_isOrder 1 = .ok (.istore_n 1, 1) := by decide +kernel
theorem dX7_isOrder_2 : decode cX7_isOrder 2 = .ok (.iload_n 1, 1) := by decide +kernel
theorem dX7_isOrder_3 : decode cX7_isOrder 3 = .ok (.aload_n 0, 1) := by decide +kernel
theorem dX7_isOrder_4 : decode cX7_isOrder 4 = .ok (.getfield 128, 3) := by decide +kernel
theorem dX7_isOrder_7 : decode cX7_isOrder 7 = .ok (.if_icmp .ge 58, 3) := by decide +kernel
theorem dX7_isOrder_10 : decode cX7_isOrder 10 = .ok (.iload_n 1, 1) := by decide +kernel
theorem dX7_isOrder_11 : decode cX7_isOrder 11 = .ok (.iconst 1, 1) := by decide +kernel
theorem dX7_isOrder_12 : decode cX7_isOrder 12 = .ok (.iadd, 1) := by decide +kernel
theorem dX7_isOrder_13 : decode cX7_isOrder 13 = .ok (.istore_n 2, 1) := by decide +kernel
theorem dX7_isOrder_14 : decode cX7_isOrder 14 = .ok (.iload_n 2, 1) := by decide +kernel
theorem dX7_isOrder_15 : decode cX7_isOrder 15 = .ok (.aload_n 0, 1) := by decide +kernel
theorem dX7_isOrder_16 : decode cX7_isOrder 16 = .ok (.getfield 128, 3) := by decide +kernel
theorem dX7_isOrder_19 : decode cX7_isOrder 19 = .ok (.if_icmp .ge 40, 3) := by decide +kernel
theorem dX7_isOrder_22 : decode cX7_isOrder 22 = .ok (.aload_n 0, 1) := by decide +kernel
theorem dX7_isOrder_23 : decode cX7_isOrder 23 = .ok (.getfield 75, 3) := by decide +kernel
theorem dX7_isOrder_26 : decode cX7_isOrder 26 = .ok (.bipush 6, 2) := by decide +kernel
theorem dX7_isOrder_28 : decode cX7_isOrder 28 = .ok (.iload_n 1, 1) := by decide +kernel
theorem dX7_isOrder_29 : decode cX7_isOrder 29 = .ok (.imul, 1) := by decide +kernel
theorem dX7_isOrder_30 : decode cX7_isOrder 30 = .ok (.iload_n 2, 1) := by decide +kernel
theorem dX7_isOrder_31 : decode cX7_isOrder 31 = .ok (.iadd, 1) := by decide +kernel
theorem dX7_isOrder_32 : decode cX7_isOrder 32 = .ok (.baload, 1) := by decide +kernel
theorem dX7_isOrder_33 : decode cX7_isOrder 33 = .ok (.ifCond .eq 20, 3) := by decide +kernel
theorem dX7_isOrder_36 : decode cX7_isOrder 36 = .ok (.aload_n 0, 1) := by decide +kernel
theorem dX7_isOrder_37 : decode cX7_isOrder 37 = .ok (.getfield 82, 3) := by decide +kernel
theorem dX7_isOrder_40 : decode cX7_isOrder 40 = .ok (.iload_n 1, 1) := by decide +kernel
theorem dX7_isOrder_41 : decode cX7_isOrder 41 = .ok (.iaload, 1) := by decide +kernel
theorem dX7_isOrder_42 : decode cX7_isOrder 42 = .ok (.aload_n 0, 1) := by decide +kernel
theorem dX7_isOrder_43 : decode cX7_isOrder 43 = .ok (.getfield 82, 3) := by decide +kernel
theorem dX7_isOrder_46 : decode cX7_isOrder 46 = .ok (.iload_n 2, 1) := by decide +kernel
theorem dX7_isOrder_47 : decode cX7_isOrder 47 = .ok (.iaload, 1) := by decide +kernel
theorem dX7_isOrder_48 : decode cX7_isOrder 48 = .ok (.if_icmp .le 5, 3) := by decide +kernel
theorem dX7_isOrder_51 : decode cX7_isOrder 51 = .ok (.iconst 0, 1) := by decide +kernel
theorem dX7_isOrder_52 : decode cX7_isOrder 52 = .ok (.ireturn, 1) := by decide +kernel
theorem dX7_isOrder_53 : decode cX7_isOrder 53 = .ok (.iinc 2 1, 3) := by decide +kernel
theorem dX7_isOrder_56 : decode cX7_isOrder 56 = .ok (.goto (-42), 3) := by decide +kernel
theorem dX7_isOrder_59 : decode cX7_isOrder 59 = .ok (.iinc 1 1, 3) := by decide +kernel
theorem dX7_isOrder_62 : decode cX7_isOrder 62 = .ok (.goto (-60), 3) := by decide +kernel
theorem dX7_isOrder_65 : decode cX7_isOrder 65 = .ok (.iconst 0, 1) := by decide +kernel
theorem dX7_isOrder_66 : decode cX7_isOrder 66 = .ok (.istore_n 1, 1) := by decide +kernel
theorem dX7_isOrder_67 : decode cX7_isOrder 67 = .ok (.iload_n 1, 1) := by decide +kernel
theorem dX7_isOrder_68 : decode cX7_isOrder 68 = .ok (.aload_n 0, 1) := by decide +kernel
theorem dX7_isOrder_69 : decode cX7_isOrder 69 = .ok (.getfield 128, 3) := by decide +kernel
theorem dX7_isOrder_72 : decode cX7_isOrder 72 = .ok (.if_icmp .ge 65, 3) := by decide +kernel
theorem dX7_isOrder_75 : decode cX7_isOrder 75 = .ok (.aload_n 0, 1) := by decide +kernel
theorem dX7_isOrder_76 : decode cX7_isOrder 76 = .ok (.iload_n 1, 1) := by decide +kernel
theorem dX7_isOrder_77 : decode cX7_isOrder 77 = .ok (.invokevirtual 154, 3) := by decide +kernel
theorem dX7_isOrder_80 : decode cX7_isOrder 80 = .ok (.ifCond .eq 51, 3) := by decide +kernel
theorem dX7_isOrder_83 : decode cX7_isOrder 83 = .ok (.aload_n 0, 1) := by decide +kernel
theorem dX7_isOrder_84 : decode cX7_isOrder 84 = .ok (.getfield 85, 3) := by decide +kernel
theorem dX7_isOrder_87 : decode cX7_isOrder 87 = .ok (.iload_n 1, 1) := by decide +kernel
theorem dX7_isOrder_88 : decode cX7_isOrder 88 = .ok (.aload_n 0, 1) := by decide +kernel
theorem dX7_isOrder_89 : decode cX7_isOrder 89 = .ok (.iload_n 1, 1) := by decide +kernel
theorem dX7_isOrder_90 : decode cX7_isOrder 90 = .ok (.invokevirtual 172, 3) := by decide +kernel
theorem dX7_isOrder_93 : decode cX7_isOrder 93 = .ok (.iastore, 1) := by decide +kernel
theorem dX7_isOrder_94 : decode cX7_isOrder 94 = .ok (.aload_n 0, 1) := by decide +kernel
theorem dX7_isOrder_95 : decode cX7_isOrder 95 = .ok (.getfield 85, 3) := by decide +kernel
theorem dX7_isOrder_98 : decode cX7_isOrder 98 = .ok (.iload_n 1, 1) := by decide +kernel
theorem dX7_isOrder_99 : decode cX7_isOrder 99 = .ok (.iaload, 1) := by decide +kernel
theorem dX7_isOrder_100 : decode cX7_isOrder 100 = .ok (.ifCond .ge 7, 3) := by decide +kernel
theorem dX7_isOrder_103 : decode cX7_isOrder 103 = .ok (.iconst 0, 1) := by decide +kernel
theorem dX7_isOrder_104 : decode cX7_isOrder 104 = .ok (.goto 14, 3) := by decide +kernel
theorem dX7_isOrder_107 : decode cX7_isOrder 107 = .ok (.aload_n 0, 1) := by decide +kernel
theorem dX7_isOrder_108 : decode cX7_isOrder 108 = .ok (.getfield 45, 3) := by decide +kernel
theorem dX7_isOrder_111 : decode cX7_isOrder 111 = .ok (.aload_n 0, 1) := by decide +kernel
theorem dX7_isOrder_112 : decode cX7_isOrder 112 = .ok (.getfield 85, 3) := by decide +kernel
theorem dX7_isOrder_115 : decode cX7_isOrder 115 = .ok (.iload_n 1, 1) := by decide +kernel
theorem dX7_isOrder_116 : decode cX7_isOrder 116 = .ok (.iaload, 1) := by decide +kernel
theorem dX7_isOrder_117 : decode cX7_isOrder 117 = .ok (.iaload, 1) := by decide +kernel
theorem dX7_isOrder_118 : decode cX7_isOrder 118 = .ok (.istore_n 2, 1) := by decide +kernel
theorem dX7_isOrder_119 : decode cX7_isOrder 119 = .ok (.iload_n 2, 1) := by decide +kernel
theorem dX7_isOrder_120 : decode cX7_isOrder 120 = .ok (.aload_n 0, 1) := by decide +kernel
theorem dX7_isOrder_121 : decode cX7_isOrder 121 = .ok (.getfield 42, 3) := by decide +kernel
theorem dX7_isOrder_124 : decode cX7_isOrder 124 = .ok (.iload_n 1, 1) := by decide +kernel
theorem dX7_isOrder_125 : decode cX7_isOrder 125 = .ok (.iaload, 1) := by decide +kernel
theorem dX7_isOrder_126 : decode cX7_isOrder 126 = .ok (.if_icmp .eq 5, 3) := by decide +kernel
theorem dX7_isOrder_129 : decode cX7_isOrder 129 = .ok (.iconst 0, 1) := by decide +kernel
theorem dX7_isOrder_130 : decode cX7_isOrder 130 = .ok (.ireturn, 1) := by decide +kernel
theorem dX7_isOrder_131 : decode cX7_isOrder 131 = .ok (.iinc 1 1, 3) := by decide +kernel
theorem dX7_isOrder_134 : decode cX7_isOrder 134 = .ok (.goto (-67), 3) := by decide +kernel
theorem dX7_isOrder_137 : decode cX7_isOrder 137 = .ok (.iconst 0, 1) := by decide +kernel
theorem dX7_isOrder_138 : decode cX7_isOrder 138 = .ok (.istore_n 1, 1) := by decide +kernel
theorem dX7_isOrder_139 : decode cX7_isOrder 139 = .ok (.iload_n 1, 1) := by decide +kernel
theorem dX7_isOrder_140 : decode cX7_isOrder 140 = .ok (.aload_n 0, 1) := by decide +kernel
theorem dX7_isOrder_141 : decode cX7_isOrder 141 = .ok (.getfield 128, 3) := by decide +kernel
theorem dX7_isOrder_144 : decode cX7_isOrder 144 = .ok (.if_icmp .ge 91, 3) := by decide +kernel
theorem dX7_isOrder_147 : decode cX7_isOrder 147 = .ok (.iconst 0, 1) := by decide +kernel
theorem dX7_isOrder_148 : decode cX7_isOrder 148 = .ok (.istore_n 2, 1) := by decide +kernel
theorem dX7_isOrder_149 : decode cX7_isOrder 149 = .ok (.iload_n 2, 1) := by decide +kernel
theorem dX7_isOrder_150 : decode cX7_isOrder 150 = .ok (.iload_n 1, 1) := by decide +kernel
theorem dX7_isOrder_151 : decode cX7_isOrder 151 = .ok (.if_icmp .ge 58, 3) := by decide +kernel
theorem dX7_isOrder_154 : decode cX7_isOrder 154 = .ok (.aload_n 0, 1) := by decide +kernel
theorem dX7_isOrder_155 : decode cX7_isOrder 155 = .ok (.iload_n 1, 1) := by decide +kernel
theorem dX7_isOrder_156 : decode cX7_isOrder 156 = .ok (.invokevirtual 154, 3) := by decide +kernel
theorem dX7_isOrder_159 : decode cX7_isOrder 159 = .ok (.ifCond .eq 44, 3) := by decide +kernel
theorem dX7_isOrder_162 : decode cX7_isOrder 162 = .ok (.aload_n 0, 1) := by decide +kernel
theorem dX7_isOrder_163 : decode cX7_isOrder 163 = .ok (.getfield 33, 3) := by decide +kernel
theorem dX7_isOrder_166 : decode cX7_isOrder 166 = .ok (.iload_n 2, 1) := by decide +kernel
theorem dX7_isOrder_167 : decode cX7_isOrder 167 = .ok (.iaload, 1) := by decide +kernel
theorem dX7_isOrder_168 : decode cX7_isOrder 168 = .ok (.aload_n 0, 1) := by decide +kernel
theorem dX7_isOrder_169 : decode cX7_isOrder 169 = .ok (.getfield 33, 3) := by decide +kernel
theorem dX7_isOrder_172 : decode cX7_isOrder 172 = .ok (.iload_n 1, 1) := by decide +kernel
theorem dX7_isOrder_173 : decode cX7_isOrder 173 = .ok (.iaload, 1) := by decide +kernel
theorem dX7_isOrder_174 : decode cX7_isOrder 174 = .ok (.if_icmp .ne 29, 3) := by decide +kernel
theorem dX7_isOrder_177 : decode cX7_isOrder 177 = .ok (.aload_n 0, 1) := by decide +kernel
theorem dX7_isOrder_178 : decode cX7_isOrder 178 = .ok (.getfield 82, 3) := by decide +kernel
theorem dX7_isOrder_181 : decode cX7_isOrder 181 = .ok (.iload_n 2, 1) := by decide +kernel
theorem dX7_isOrder_182 : decode cX7_isOrder 182 = .ok (.iaload, 1) := by decide +kernel
theorem dX7_isOrder_183 : decode cX7_isOrder 183 = .ok (.aload_n 0, 1) := by decide +kernel
theorem dX7_isOrder_184 : decode cX7_isOrder 184 = .ok (.getfield 82, 3) := by decide +kernel
theorem dX7_isOrder_187 : decode cX7_isOrder 187 = .ok (.iload_n 1, 1) := by decide +kernel
theorem dX7_isOrder_188 : decode cX7_isOrder 188 = .ok (.iaload, 1) := by decide +kernel
theorem dX7_isOrder_189 : decode cX7_isOrder 189 = .ok (.if_icmp .le 14, 3) := by decide +kernel
theorem dX7_isOrder_192 : decode cX7_isOrder 192 = .ok (.aload_n 0, 1) := by decide +kernel
theorem dX7_isOrder_193 : decode cX7_isOrder 193 = .ok (.iload_n 2, 1) := by decide +kernel
theorem dX7_isOrder_194 : decode cX7_isOrder 194 = .ok (.iload_n 1, 1) := by decide +kernel
theorem dX7_isOrder_195 : decode cX7_isOrder 195 = .ok (.invokevirtual 175, 3) := by decide +kernel
theorem dX7_isOrder_198 : decode cX7_isOrder 198 = .ok (.ifCond .eq 5, 3) := by decide +kernel
theorem dX7_isOrder_201 : decode cX7_isOrder 201 = .ok (.iconst 0, 1) := by decide +kernel
theorem dX7_isOrder_202 : decode cX7_isOrder 202 = .ok (.ireturn, 1) := by decide +kernel
theorem dX7_isOrder_203 : decode cX7_isOrder 203 = .ok (.iinc 2 1, 3) := by decide +kernel
theorem dX7_isOrder_206 : decode cX7_isOrder 206 = .ok (.goto (-57), 3) := by decide +kernel
theorem dX7_isOrder_209 : decode cX7_isOrder 209 = .ok (.aload_n 0, 1) := by decide +kernel
theorem dX7_isOrder_210 : decode cX7_isOrder 210 = .ok (.getfield 36, 3) := by decide +kernel
theorem dX7_isOrder_213 : decode cX7_isOrder 213 = .ok (.iload_n 1, 1) := by decide +kernel
theorem dX7_isOrder_214 : decode cX7_isOrder 214 = .ok (.iaload, 1) := by decide +kernel
theorem dX7_isOrder_215 : decode cX7_isOrder 215 = .ok (.iconst 5, 1) := by decide +kernel
theorem dX7_isOrder_216 : decode cX7_isOrder 216 = .ok (.if_icmp .ne 13, 3) := by decide +kernel
theorem dX7_isOrder_219 : decode cX7_isOrder 219 = .ok (.aload_n 0, 1) := by decide +kernel
theorem dX7_isOrder_220 : decode cX7_isOrder 220 = .ok (.iload_n 1, 1) := by decide +kernel
theorem dX7_isOrder_221 : decode cX7_isOrder 221 = .ok (.invokevirtual 178, 3) := by decide +kernel
theorem dX7_isOrder_224 : decode cX7_isOrder 224 = .ok (.ifCond .ne 5, 3) := by decide +kernel
theorem dX7_isOrder_227 : decode cX7_isOrder 227 = .ok (.iconst 0, 1) := by decide +kernel
theorem dX7_isOrder_228 : decode cX7_isOrder 228 = .ok (.ireturn, 1) := by decide +kernel
theorem dX7_isOrder_229 : decode cX7_isOrder 229 = .ok (.iinc 1 1, 3) := by decide +kernel
theorem dX7_isOrder_232 : decode cX7_isOrder 232 = .ok (.goto (-93), 3) := by decide +kernel
theorem dX7_isOrder_235 : decode cX7_isOrder 235 = .ok (.iconst 1, 1) := by decide +kernel
theorem dX7_isOrder_236 : decode cX7_isOrder 236 = .ok (.ireturn, 1) := by decide +kernel
theorem dX7_nextOrder_0 : decode cX7_nextOrder 0 = .ok (.aload_n 0, 1) := by decide +kernel
theorem dX7_nextOrder_1 : decode cX7_nextOrder 1 = .ok (.getfield 128, 3) := by decide +kernel
theorem dX7_nextOrder_4 : decode cX7_nextOrder 4 = .ok (.iconst 2, 1) := by decide +kernel
theorem dX7_nextOrder_5 : decode cX7_nextOrder 5 = .ok (.isub, 1) := by decide +kernel
theorem dX7_nextOrder_6 : decode cX7_nextOrder 6 = .ok (.istore_n 1, 1) := by decide +kernel
theorem dX7_nextOrder_7 : decode cX7_nextOrder 7 = .ok (.iload_n 1, 1) := by decide +kernel
theorem dX7_nextOrder_8 : decode cX7_nextOrder 8 = .ok (.ifCond .lt 26, 3) := by decide +kernel
theorem dX7_nextOrder_11 : decode cX7_nextOrder 11 = .ok (.aload_n 0, 1) := by decide +kernel
theorem dX7_nextOrder_12 : decode cX7_nextOrder 12 = .ok (.getfield 79, 3) := by decide +kernel
theorem dX7_nextOrder_15 : decode cX7_nextOrder 15 = .ok (.iload_n 1, 1) := by decide +kernel
theorem dX7_nextOrder_16 : decode cX7_nextOrder 16 = .ok (.iaload, 1) := by decide +kernel
theorem dX7_nextOrder_17 : decode cX7_nextOrder 17 = .ok (.aload_n 0, 1) := by decide +kernel
theorem dX7_nextOrder_18 : decode cX7_nextOrder 18 = .ok (.getfield 79, 3) := by decide +kernel
theorem dX7_nextOrder_21 : decode cX7_nextOrder 21 = .ok (.iload_n 1, 1) := by decide +kernel
theorem dX7_nextOrder_22 : decode cX7_nextOrder 22 = .ok (.iconst 1, 1) := by decide +kernel
theorem dX7_nextOrder_23 : decode cX7_nextOrder 23 = .ok (.iadd, 1) := by decide +kernel
theorem dX7_nextOrder_24 : decode cX7_nextOrder 24 = .ok (.iaload, 1) := by decide +kernel
theorem dX7_nextOrder_25 : decode cX7_nextOrder 25 = .ok (.if_icmp .le 9, 3) := by decide +kernel
theorem dX7_nextOrder_28 : decode cX7_nextOrder 28 = .ok (.iinc 1 (-1), 3) := by decide +kernel
theorem dX7_nextOrder_31 : decode cX7_nextOrder 31 = .ok (.goto (-24), 3) := by decide +kernel
theorem dX7_nextOrder_34 : decode cX7_nextOrder 34 = .ok (.iload_n 1, 1) := by decide +kernel
theorem dX7_nextOrder_35 : decode cX7_nextOrder 35 = .ok (.ifCond .ge 5, 3) := by decide +kernel
theorem dX7_nextOrder_38 : decode cX7_nextOrder 38 = .ok (.iconst 0, 1) := by decide +kernel
theorem dX7_nextOrder_39 : decode cX7_nextOrder 39 = .ok (.ireturn, 1) := by decide +kernel
theorem dX7_nextOrder_40 : decode cX7_nextOrder 40 = .ok (.aload_n 0, 1) := by decide +kernel
theorem dX7_nextOrder_41 : decode cX7_nextOrder 41 = .ok (.getfield 128, 3) := by decide +kernel
theorem dX7_nextOrder_44 : decode cX7_nextOrder 44 = .ok (.iconst 1, 1) := by decide +kernel
theorem dX7_nextOrder_45 : decode cX7_nextOrder 45 = .ok (.isub, 1) := by decide +kernel
theorem dX7_nextOrder_46 : decode cX7_nextOrder 46 = .ok (.istore_n 2, 1) := by decide +kernel
theorem dX7_nextOrder_47 : decode cX7_nextOrder 47 = .ok (.aload_n 0, 1) := by decide +kernel
theorem dX7_nextOrder_48 : decode cX7_nextOrder 48 = .ok (.getfield 79, 3) := by decide +kernel
theorem dX7_nextOrder_51 : decode cX7_nextOrder 51 = .ok (.iload_n 2, 1) := by decide +kernel
theorem dX7_nextOrder_52 : decode cX7_nextOrder 52 = .ok (.iaload, 1) := by decide +kernel
theorem dX7_nextOrder_53 : decode cX7_nextOrder 53 = .ok (.aload_n 0, 1) := by decide +kernel
theorem dX7_nextOrder_54 : decode cX7_nextOrder 54 = .ok (.getfield 79, 3) := by decide +kernel
theorem dX7_nextOrder_57 : decode cX7_nextOrder 57 = .ok (.iload_n 1, 1) := by decide +kernel
theorem dX7_nextOrder_58 : decode cX7_nextOrder 58 = .ok (.iaload, 1) := by decide +kernel
theorem dX7_nextOrder_59 : decode cX7_nextOrder 59 = .ok (.if_icmp .ge 9, 3) := by decide +kernel
theorem dX7_nextOrder_62 : decode cX7_nextOrder 62 = .ok (.iinc 2 (-1), 3) := by decide +kernel
theorem dX7_nextOrder_65 : decode cX7_nextOrder 65 = .ok (.goto (-18), 3) := by decide +kernel
theorem dX7_nextOrder_68 : decode cX7_nextOrder 68 = .ok (.aload_n 0, 1) := by decide +kernel
theorem dX7_nextOrder_69 : decode cX7_nextOrder 69 = .ok (.getfield 79, 3) := by decide +kernel
theorem dX7_nextOrder_72 : decode cX7_nextOrder 72 = .ok (.iload_n 1, 1) := by decide +kernel
theorem dX7_nextOrder_73 : decode cX7_nextOrder 73 = .ok (.iaload, 1) := by decide +kernel
theorem dX7_nextOrder_74 : decode cX7_nextOrder 74 = .ok (.istore_n 3, 1) := by decide +kernel
theorem dX7_nextOrder_75 : decode cX7_nextOrder 75 = .ok (.aload_n 0, 1) := by decide +kernel
theorem dX7_nextOrder_76 : decode cX7_nextOrder 76 = .ok (.getfield 79, 3) := by decide +kernel
theorem dX7_nextOrder_79 : decode cX7_nextOrder 79 = .ok (.iload_n 1, 1) := by decide +kernel
theorem dX7_nextOrder_80 : decode cX7_nextOrder 80 = .ok (.aload_n 0, 1) := by decide +kernel
theorem dX7_nextOrder_81 : decode cX7_nextOrder 81 = .ok (.getfield 79, 3) := by decide +kernel
theorem dX7_nextOrder_84 : decode cX7_nextOrder 84 = .ok (.iload_n 2, 1) := by decide +kernel
theorem dX7_nextOrder_85 : decode cX7_nextOrder 85 = .ok (.iaload, 1) := by decide +kernel
theorem dX7_nextOrder_86 : decode cX7_nextOrder 86 = .ok (.iastore, 1) := by decide +kernel
theorem dX7_nextOrder_87 : decode cX7_nextOrder 87 = .ok (.aload_n 0, 1) := by decide +kernel
theorem dX7_nextOrder_88 : decode cX7_nextOrder 88 = .ok (.getfield 79, 3) := by decide +kernel
theorem dX7_nextOrder_91 : decode cX7_nextOrder 91 = .ok (.iload_n 2, 1) := by decide +kernel
theorem dX7_nextOrder_92 : decode cX7_nextOrder 92 = .ok (.iload_n 3, 1) := by decide +kernel
theorem dX7_nextOrder_93 : decode cX7_nextOrder 93 = .ok (.iastore, 1) := by decide +kernel
theorem dX7_nextOrder_94 : decode cX7_nextOrder 94 = .ok (.iload_n 1, 1) := by decide +kernel
theorem dX7_nextOrder_95 : decode cX7_nextOrder 95 = .ok (.iconst 1, 1) := by decide +kernel
theorem dX7_nextOrder_96 : decode cX7_nextOrder 96 = .ok (.iadd, 1) := by decide +kernel
theorem dX7_nextOrder_97 : decode cX7_nextOrder 97 = .ok (.istore 4, 2) := by decide +kernel
theorem dX7_nextOrder_99 : decode cX7_nextOrder 99 = .ok (.aload_n 0, 1) := by decide +kernel
theorem dX7_nextOrder_100 : decode cX7_nextOrder 100 = .ok (.getfield 128, 3) := by decide +kernel
theorem dX7_nextOrder_103 : decode cX7_nextOrder 103 = .ok (.iconst 1, 1) := by decide +kernel
theorem dX7_nextOrder_104 : decode cX7_nextOrder 104 = .ok (.isub, 1) := by decide +kernel
theorem dX7_nextOrder_105 : decode cX7_nextOrder 105 = .ok (.istore 5, 2) := by decide +kernel
theorem dX7_nextOrder_107 : decode cX7_nextOrder 107 = .ok (.iload 4, 2) := by decide +kernel
theorem dX7_nextOrder_109 : decode cX7_nextOrder 109 = .ok (.iload 5, 2) := by decide +kernel
theorem dX7_nextOrder_111 : decode cX7_nextOrder 111 = .ok (.if_icmp .ge 44, 3) := by decide +kernel
theorem dX7_nextOrder_114 : decode cX7_nextOrder 114 = .ok (.aload_n 0, 1) := by decide +kernel
theorem dX7_nextOrder_115 : decode cX7_nextOrder 115 = .ok (.getfield 79, 3) := by decide +kernel
theorem dX7_nextOrder_118 : decode cX7_nextOrder 118 = .ok (.iload 4, 2) := by decide +kernel
theorem dX7_nextOrder_120 : decode cX7_nextOrder 120 = .ok (.iaload, 1) := by decide +kernel
theorem dX7_nextOrder_121 : decode cX7_nextOrder 121 = .ok (.istore 6, 2) := by decide +kernel
theorem dX7_nextOrder_123 : decode cX7_nextOrder 123 = .ok (.aload_n 0, 1) := by decide +kernel
theorem dX7_nextOrder_124 : decode cX7_nextOrder 124 = .ok (.getfield 79, 3) := by decide +kernel
theorem dX7_nextOrder_127 : decode cX7_nextOrder 127 = .ok (.iload 4, 2) := by decide +kernel
