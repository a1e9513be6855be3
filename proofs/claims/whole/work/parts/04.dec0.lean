theorem dX0_init_0 : decode cX0_init 0 = .ok (.aload_n 0, 1) := by decide +kernel
theorem dX0_init_1 : decode cX0_init 1 = .ok (.invokespecial 1, 3) := by decide +kernel
theorem dX0_init_4 : decode cX0_init 4 = .ok (.return_, 1) := by decide +kernel
theorem dX1_init_0 : decode cX1_init 0 = .ok (.aload_n 0, 1) := by decide +kernel
theorem dX1_init_1 : decode cX1_init 1 = .ok (.invokespecial 3, 3) := by decide +kernel
theorem dX1_init_4 : decode cX1_init 4 = .ok (.aload_n 0, 1) := by decide +kernel
theorem dX1_init_5 : decode cX1_init 5 = .ok (.bipush 6, 2) := by decide +kernel
theorem dX1_init_7 : decode cX1_init 7 = .ok (.newarray .int, 2) := by decide +kernel
theorem dX1_init_9 : decode cX1_init 9 = .ok (.putfield 9, 3) := by decide +kernel
theorem dX1_init_12 : decode cX1_init 12 = .ok (.aload_n 0, 1) := by decide +kernel
theorem dX1_init_13 : decode cX1_init 13 = .ok (.bipush 6, 2) := by decide +kernel
theorem dX1_init_15 : decode cX1_init 15 = .ok (.newarray .int, 2) := by decide +kernel
theorem dX1_init_17 : decode cX1_init 17 = .ok (.putfield 15, 3) := by decide +kernel
theorem dX1_init_20 : decode cX1_init 20 = .ok (.aload_n 0, 1) := by decide +kernel
theorem dX1_init_21 : decode cX1_init 21 = .ok (.iconst 0, 1) := by decide +kernel
theorem dX1_init_22 : decode cX1_init 22 = .ok (.putfield 18, 3) := by decide +kernel
theorem dX1_init_25 : decode cX1_init 25 = .ok (.aload_n 0, 1) := by decide +kernel
theorem dX1_init_26 : decode cX1_init 26 = .ok (.iconst 0, 1) := by decide +kernel
theorem dX1_init_27 : decode cX1_init 27 = .ok (.putfield 22, 3) := by decide +kernel
theorem dX1_init_30 : decode cX1_init 30 = .ok (.return_, 1) := by decide +kernel
theorem dX1_restart_0 : decode cX1_restart 0 = .ok (.aload_n 0, 1) := by decide +kernel
theorem dX1_restart_1 : decode cX1_restart 1 = .ok (.iconst 0, 1) := by decide +kernel
theorem dX1_restart_2 : decode cX1_restart 2 = .ok (.putfield 18, 3) := by decide +kernel
theorem dX1_restart_5 : decode cX1_restart 5 = .ok (.aload_n 0, 1) := by decide +kernel
theorem dX1_restart_6 : decode cX1_restart 6 = .ok (.iconst 0, 1) := by decide +kernel
theorem dX1_restart_7 : decode cX1_restart 7 = .ok (.putfield 22, 3) := by decide +kernel
theorem dX1_restart_10 : decode cX1_restart 10 = .ok (.return_, 1) := by decide +kernel
theorem dX1_choose_0 : decode cX1_choose 0 = .ok (.aload_n 0, 1) := by decide +kernel
theorem dX1_choose_1 : decode cX1_choose 1 = .ok (.getfield 18, 3) := by decide +kernel
theorem dX1_choose_4 : decode cX1_choose 4 = .ok (.bipush 6, 2) := by decide +kernel
theorem dX1_choose_6 : decode cX1_choose 6 = .ok (.if_icmp .lt 5, 3) := by decide +kernel
theorem dX1_choose_9 : decode cX1_choose 9 = .ok (.iconst 0, 1) := by decide +kernel
theorem dX1_choose_10 : decode cX1_choose 10 = .ok (.ireturn, 1) := by decide +kernel
theorem dX1_choose_11 : decode cX1_choose 11 = .ok (.aload_n 0, 1) := by decide +kernel
theorem dX1_choose_12 : decode cX1_choose 12 = .ok (.getfield 18, 3) := by decide +kernel
theorem dX1_choose_15 : decode cX1_choose 15 = .ok (.aload_n 0, 1) := by decide +kernel
theorem dX1_choose_16 : decode cX1_choose 16 = .ok (.getfield 22, 3) := by decide +kernel
theorem dX1_choose_19 : decode cX1_choose 19 = .ok (.if_icmp .lt 23, 3) := by decide +kernel
theorem dX1_choose_22 : decode cX1_choose 22 = .ok (.aload_n 0, 1) := by decide +kernel
theorem dX1_choose_23 : decode cX1_choose 23 = .ok (.getfield 9, 3) := by decide +kernel
theorem dX1_choose_26 : decode cX1_choose 26 = .ok (.aload_n 0, 1) := by decide +kernel
theorem dX1_choose_27 : decode cX1_choose 27 = .ok (.getfield 18, 3) := by decide +kernel
theorem dX1_choose_30 : decode cX1_choose 30 = .ok (.iconst 0, 1) := by decide +kernel
theorem dX1_choose_31 : decode cX1_choose 31 = .ok (.iastore, 1) := by decide +kernel
theorem dX1_choose_32 : decode cX1_choose 32 = .ok (.aload_n 0, 1) := by decide +kernel
theorem dX1_choose_33 : decode cX1_choose 33 = .ok (.getfield 15, 3) := by decide +kernel
theorem dX1_choose_36 : decode cX1_choose 36 = .ok (.aload_n 0, 1) := by decide +kernel
theorem dX1_choose_37 : decode cX1_choose 37 = .ok (.getfield 18, 3) := by decide +kernel
theorem dX1_choose_40 : decode cX1_choose 40 = .ok (.iload_n 1, 1) := by decide +kernel
theorem dX1_choose_41 : decode cX1_choose 41 = .ok (.iastore, 1) := by decide +kernel
theorem dX1_choose_42 : decode cX1_choose 42 = .ok (.aload_n 0, 1) := by decide +kernel
theorem dX1_choose_43 : decode cX1_choose 43 = .ok (.getfield 9, 3) := by decide +kernel
theorem dX1_choose_46 : decode cX1_choose 46 = .ok (.aload_n 0, 1) := by decide +kernel
theorem dX1_choose_47 : decode cX1_choose 47 = .ok (.dup, 1) := by decide +kernel
theorem dX1_choose_48 : decode cX1_choose 48 = .ok (.getfield 18, 3) := by decide +kernel
theorem dX1_choose_51 : decode cX1_choose 51 = .ok (.dup_x1, 1) := by decide +kernel
theorem dX1_choose_52 : decode cX1_choose 52 = .ok (.iconst 1, 1) := by decide +kernel
theorem dX1_choose_53 : decode cX1_choose 53 = .ok (.iadd, 1) := by decide +kernel
theorem dX1_choose_54 : decode cX1_choose 54 = .ok (.putfield 18, 3) := by decide +kernel
theorem dX1_choose_57 : decode cX1_choose 57 = .ok (.iaload, 1) := by decide +kernel
theorem dX1_choose_58 : decode cX1_choose 58 = .ok (.ireturn, 1) := by decide +kernel
theorem dX1_advance_0 : decode cX1_advance 0 = .ok (.aload_n 0, 1) := by decide +kernel
theorem dX1_advance_1 : decode cX1_advance 1 = .ok (.getfield 18, 3) := by decide +kernel
theorem dX1_advance_4 : decode cX1_advance 4 = .ok (.iconst 1, 1) := by decide +kernel
theorem dX1_advance_5 : decode cX1_advance 5 = .ok (.isub, 1) := by decide +kernel
theorem dX1_advance_6 : decode cX1_advance 6 = .ok (.istore_n 1, 1) := by decide +kernel
theorem dX1_advance_7 : decode cX1_advance 7 = .ok (.iload_n 1, 1) := by decide +kernel
theorem dX1_advance_8 : decode cX1_advance 8 = .ok (.ifCond .lt 26, 3) := by decide +kernel
theorem dX1_advance_11 : decode cX1_advance 11 = .ok (.aload_n 0, 1) := by decide +kernel
theorem dX1_advance_12 : decode cX1_advance 12 = .ok (.getfield 9, 3) := by decide +kernel
theorem dX1_advance_15 : decode cX1_advance 15 = .ok (.iload_n 1, 1) := by decide +kernel
theorem dX1_advance_16 : decode cX1_advance 16 = .ok (.iaload, 1) := by decide +kernel
theorem dX1_advance_17 : decode cX1_advance 17 = .ok (.iconst 1, 1) := by decide +kernel
theorem dX1_advance_18 : decode cX1_advance 18 = .ok (.iadd, 1) := by decide +kernel
theorem dX1_advance_19 : decode cX1_advance 19 = .ok (.aload_n 0, 1) := by decide +kernel
theorem dX1_advance_20 : decode cX1_advance 20 = .ok (.getfield 15, 3) := by decide +kernel
theorem dX1_advance_23 : decode cX1_advance 23 = .ok (.iload_n 1, 1) := by decide +kernel
theorem dX1_advance_24 : decode cX1_advance 24 = .ok (.iaload, 1) := by decide +kernel
theorem dX1_advance_25 : decode cX1_advance 25 = .ok (.if_icmp .lt 9, 3) := by decide +kernel
theorem dX1_advance_28 : decode cX1_advance 28 = .ok (.iinc 1 (-1), 3) := by decide +kernel
theorem dX1_advance_31 : decode cX1_advance 31 = .ok (.goto (-24), 3) := by decide +kernel
theorem dX1_advance_34 : decode cX1_advance 34 = .ok (.iload_n 1, 1) := by decide +kernel
theorem dX1_advance_35 : decode cX1_advance 35 = .ok (.ifCond .lt 13, 3) := by decide +kernel
theorem dX1_advance_38 : decode cX1_advance 38 = .ok (.aload_n 0, 1) := by decide +kernel
theorem dX1_advance_39 : decode cX1_advance 39 = .ok (.getfield 9, 3) := by decide +kernel
theorem dX1_advance_42 : decode cX1_advance 42 = .ok (.iload_n 1, 1) := by decide +kernel
theorem dX1_advance_43 : decode cX1_advance 43 = .ok (.dup2, 1) := by decide +kernel
theorem dX1_advance_44 : decode cX1_advance 44 = .ok (.iaload, 1) := by decide +kernel
theorem dX1_advance_45 : decode cX1_advance 45 = .ok (.iconst 1, 1) := by decide +kernel
theorem dX1_advance_46 : decode cX1_advance 46 = .ok (.iadd, 1) := by decide +kernel
theorem dX1_advance_47 : decode cX1_advance 47 = .ok (.iastore, 1) := by decide +kernel
theorem dX1_advance_48 : decode cX1_advance 48 = .ok (.aload_n 0, 1) := by decide +kernel
theorem dX1_advance_49 : decode cX1_advance 49 = .ok (.iload_n 1, 1) := by decide +kernel
theorem dX1_advance_50 : decode cX1_advance 50 = .ok (.iconst 1, 1) := by decide +kernel
theorem dX1_advance_51 : decode cX1_advance 51 = .ok (.iadd, 1) := by decide +kernel
theorem dX1_advance_52 : decode cX1_advance 52 = .ok (.putfield 22, 3) := by decide +kernel
theorem dX1_advance_55 : decode cX1_advance 55 = .ok (.aload_n 0, 1) := by decide +kernel
theorem dX1_advance_56 : decode cX1_advance 56 = .ok (.iconst 0, 1) := by decide +kernel
theorem dX1_advance_57 : decode cX1_advance 57 = .ok (.putfield 18, 3) := by decide +kernel
theorem dX1_advance_60 : decode cX1_advance 60 = .ok (.iload_n 1, 1) := by decide +kernel
theorem dX1_advance_61 : decode cX1_advance 61 = .ok (.ifCond .lt 7, 3) := by decide +kernel
theorem dX1_advance_64 : decode cX1_advance 64 = .ok (.iconst 1, 1) := by decide +kernel
theorem dX1_advance_65 : decode cX1_advance 65 = .ok (.goto 4, 3) := by decide +kernel
theorem dX1_advance_68 : decode cX1_advance 68 = .ok (.iconst 0, 1) := by decide +kernel
theorem dX1_advance_69 : decode cX1_advance 69 = .ok (.ireturn, 1) := by decide +kernel
theorem dX2_init_0 : decode cX2_init 0 = .ok (.aload_n 0, 1) := by decide +kernel
theorem dX2_init_1 : decode cX2_init 1 = .ok (.invokespecial 3, 3) := by decide +kernel
theorem dX2_init_4 : decode cX2_init 4 = .ok (.aload_n 0, 1) := by decide +kernel
theorem dX2_init_5 : decode cX2_init 5 = .ok (.aload_n 1, 1) := by decide +kernel
theorem dX2_init_6 : decode cX2_init 6 = .ok (.putfield 9, 3) := by decide +kernel
theorem dX2_init_9 : decode cX2_init 9 = .ok (.aload_n 0, 1) := by decide +kernel
theorem dX2_init_10 : decode cX2_init 10 = .ok (.aload_n 2, 1) := by decide +kernel
theorem dX2_init_11 : decode cX2_init 11 = .ok (.putfield 15, 3) := by decide +kernel
theorem dX2_init_14 : decode cX2_init 14 = .ok (.aload_n 0, 1) := by decide +kernel
theorem dX2_init_15 : decode cX2_init 15 = .ok (.bipush 6, 2) := by decide +kernel
theorem dX2_init_17 : decode cX2_init 17 = .ok (.newarray .int, 2) := by decide +kernel
theorem dX2_init_19 : decode cX2_init 19 = .ok (.putfield 19, 3) := by decide +kernel
theorem dX2_init_22 : decode cX2_init 22 = .ok (.aload_n 0, 1) := by decide +kernel
theorem dX2_init_23 : decode cX2_init 23 = .ok (.bipush 6, 2) := by decide +kernel
theorem dX2_init_25 : decode cX2_init 25 = .ok (.newarray .int, 2) := by decide +kernel
theorem dX2_init_27 : decode cX2_init 27 = .ok (.putfield 23, 3) := by decide +kernel
theorem dX2_init_30 : decode cX2_init 30 = .ok (.aload_n 0, 1) := by decide +kernel
theorem dX2_init_31 : decode cX2_init 31 = .ok (.iconst 3, 1) := by decide +kernel
theorem dX2_init_32 : decode cX2_init 32 = .ok (.newarray .int, 2) := by decide +kernel
theorem dX2_init_34 : decode cX2_init 34 = .ok (.putfield 26, 3) := by decide +kernel
theorem dX2_init_37 : decode cX2_init 37 = .ok (.aload_n 0, 1) := by decide +kernel
theorem dX2_init_38 : decode cX2_init 38 = .ok (.lconst 0, 1) := by decide +kernel
theorem dX2_init_39 : decode cX2_init 39 = .ok (.putfield 29, 3) := by decide +kernel
theorem dX2_init_42 : decode cX2_init 42 = .ok (.aload_n 0, 1) := by decide +kernel
theorem dX2_init_43 : decode cX2_init 43 = .ok (.iconst 0, 1) := by decide +kernel
theorem dX2_init_44 : decode cX2_init 44 = .ok (.putfield 33, 3) := by decide +kernel
theorem dX2_init_47 : decode cX2_init 47 = .ok (.return_, 1) := by decide +kernel
set_option maxRecDepth 20000 in
theorem ggX2_search_X5_registersPart : GoodIn wsX2_search wsX5_registersPart := goodIn_r _ [9, 10, 11, 102, 103, 104, 105, 106, 107, 108, 109, 110, 111, 112, 113, 114, 115] (by decide +kernel) (by decide +kernel)
set_option maxRecDepth 20000 in
theorem gX2_search_X5_registersPart : GoodIn wsX2_search (wsV RX2 37 RX5 yX5_registersPart wsX5_registersPart) := goodIn_app (goodIn_of _ (by decide +kernel)) ggX2_search_X5_registersPart
set_option maxRecDepth 20000 in
theorem ggX2_search_J7_fill_53178 : GoodIn wsX2_search wsJ7_fill_53178 := goodIn_r _ [15] (by decide +kernel) (by decide +kernel)
set_option maxRecDepth 20000 in
theorem gX2_search_J7_fill_53178 : GoodIn wsX2_search (va_wsS RX2 42 yJ7_fill_53178 wsJ7_fill_53178) := goodIn_app (goodIn_of _ (by decide +kernel)) ggX2_search_J7_fill_53178
set_option maxRecDepth 20000 in
theorem ggX2_search_X2_extend : GoodIn wsX2_search wsX2_extend := goodIn_r _ [20, 2, 1, 21, 3, 4, 22, 23, 24, 25, 8, 26, 27, 28, 29, 30, 31, 10, 32, 33, 34, 35, 36, 37, 38, 39, 40, 41, 42, 43, 44, 45, 46, 47, 48, 49, 14, 50, 51, 52, 53, 54, 55, 56, 57, 58, 59, 60, 61, 62, 63, 64, 65, 66, 67, 68, 19, 69, 70, 71, 72, 73, 74, 75, 76, 77, 78, 79, 80, 81, 82, 83, 84, 85, 86, 87, 88, 89, 90, 91, 92, 93, 94, 16, 17, 18, 95, 96, 97, 98, 99, 100, 101, 116, 117, 118, 119, 120, 121, 122, 123, 124, 125, 126, 127, 128, 129, 102, 103, 104, 105, 106, 107, 108, 109, 110, 111, 112, 113, 114, 115, 130, 131] (by decide +kernel) (by decide +kernel)
set_option maxRecDepth 20000 in
theorem gX2_search_X2_extend : GoodIn wsX2_search (wsV RX2 48 RX2 yX2_extend wsX2_extend) := goodIn_app (goodIn_of _ (by decide +kernel)) ggX2_search_X2_extend
theorem dX2_search_0 : decode cX2_search 0 = .ok (.aload_n 0, 1) := by decide +kernel
theorem dX2_search_1 : decode cX2_search 1 = .ok (.iconst 0, 1) := by decide +kernel
theorem dX2_search_2 : decode cX2_search 2 = .ok (.putfield 33, 3) := by decide +kernel
theorem dX2_search_5 : decode cX2_search 5 = .ok (.aload_n 0, 1) := by decide +kernel
theorem dX2_search_6 : decode cX2_search 6 = .ok (.aload_n 0, 1) := by decide +kernel
theorem dX2_search_7 : decode cX2_search 7 = .ok (.getfield 9, 3) := by decide +kernel
theorem dX2_search_10 : decode cX2_search 10 = .ok (.invokevirtual 37, 3) := by decide +kernel
theorem dX2_search_13 : decode cX2_search 13 = .ok (.putfield 29, 3) := by decide +kernel
theorem dX2_search_16 : decode cX2_search 16 = .ok (.aload_n 0, 1) := by decide +kernel
theorem dX2_search_17 : decode cX2_search 17 = .ok (.getfield 26, 3) := by decide +kernel
theorem dX2_search_20 : decode cX2_search 20 = .ok (.iconst (-1), 1) := by decide +kernel
theorem dX2_search_21 : decode cX2_search 21 = .ok (.invokestatic 42, 3) := by decide +kernel
theorem dX2_search_24 : decode cX2_search 24 = .ok (.aload_n 0, 1) := by decide +kernel
theorem dX2_search_25 : decode cX2_search 25 = .ok (.iconst 0, 1) := by decide +kernel
theorem dX2_search_26 : decode cX2_search 26 = .ok (.iconst 0, 1) := by decide +kernel
theorem dX2_search_27 : decode cX2_search 27 = .ok (.invokevirtual 48, 3) := by decide +kernel
theorem dX2_search_30 : decode cX2_search 30 = .ok (.aload_n 0, 1) := by decide +kernel
theorem dX2_search_31 : decode cX2_search 31 = .ok (.getfield 33, 3) := by decide +kernel
theorem dX2_search_34 : decode cX2_search 34 = .ok (.ireturn, 1) := by decide +kernel
set_option maxRecDepth 20000 in
theorem ggX2_extend_X5_size : GoodIn wsX2_extend wsX5_size := goodIn_r _ [11, 12, 107, 108, 109, 110, 111, 112, 113, 114, 115, 116, 117, 118, 119, 120] (by decide +kernel) (by decide +kernel)
set_option maxRecDepth 20000 in
theorem gX2_extend_X5_size : GoodIn wsX2_extend (wsV RX2 52 RX5 yX5_size wsX5_size) := goodIn_app (goodIn_of _ (by decide +kernel)) ggX2_extend_X5_size
set_option maxRecDepth 20000 in
theorem ggX2_extend_X5_locationsPart : GoodIn wsX2_extend wsX5_locationsPart := goodIn_r _ [16, 17, 18, 107, 108, 109, 110, 111, 112, 113, 114, 115, 116, 117, 118, 119, 120, 93, 94, 95, 96, 97, 98, 99, 100, 101, 102, 103, 104, 105, 106] (by decide +kernel) (by decide +kernel)
set_option maxRecDepth 20000 in
theorem gX2_extend_X5_locationsPart : GoodIn wsX2_extend (wsV RX2 56 RX5 yX5_locationsPart wsX5_locationsPart) := goodIn_app (goodIn_of _ (by decide +kernel)) ggX2_extend_X5_locationsPart
set_option maxRecDepth 20000 in
theorem ggX2_extend_X3_keep : GoodIn wsX2_extend wsX3_keep := goodIn_r _ [23, 24, 25, 26, 27, 28, 29, 30, 31, 32, 22, 33, 34, 35, 36, 37, 38, 39, 40, 41, 42, 43, 44, 45, 46, 47, 48, 49, 121, 122] (by decide +kernel) (by decide +kernel)
set_option maxRecDepth 20000 in
theorem gX2_extend_X3_keep : GoodIn wsX2_extend (wsV RX2 60 RX3 yX3_keep wsX3_keep) := goodIn_app (goodIn_of _ (by decide +kernel)) ggX2_extend_X3_keep
set_option maxRecDepth 20000 in
theorem ggX2_extend_X5_accessAt : GoodIn wsX2_extend wsX5_accessAt := goodIn_r _ [53, 18, 107, 108, 109, 110, 111, 112, 113, 114, 115, 116, 117, 118, 119, 120] (by decide +kernel) (by decide +kernel)
set_option maxRecDepth 20000 in
theorem gX2_extend_X5_accessAt : GoodIn wsX2_extend (wsV RX2 66 RX5 yX5_accessAt wsX5_accessAt) := goodIn_app (goodIn_of _ (by decide +kernel)) ggX2_extend_X5_accessAt
set_option maxRecDepth 20000 in
theorem ggX2_extend_X2_isIn : GoodIn wsX2_extend wsX2_isIn := goodIn_r _ [57] (by decide +kernel) (by decide +kernel)
set_option maxRecDepth 20000 in
theorem gX2_extend_X2_isIn : GoodIn wsX2_extend (va_wsS RX2 70 yX2_isIn wsX2_isIn) := goodIn_app (goodIn_of _ (by decide +kernel)) ggX2_extend_X2_isIn
set_option maxRecDepth 20000 in
theorem ggX2_extend_X2_sourceOf : GoodIn wsX2_extend wsX2_sourceOf := goodIn_r _ [61, 5, 54, 55, 56, 57, 93, 94, 95, 96, 97, 98, 99, 100, 101, 102, 103, 104, 105, 106, 86, 87, 88, 89, 90, 91, 92] (by decide +kernel) (by decide +kernel)
set_option maxRecDepth 20000 in
theorem gX2_extend_X2_sourceOf : GoodIn wsX2_extend (wsV RX2 83 RX2 yX2_sourceOf wsX2_sourceOf) := goodIn_app (goodIn_of _ (by decide +kernel)) ggX2_extend_X2_sourceOf
set_option maxRecDepth 20000 in
theorem ggX2_extend_X2_mayReadHere : GoodIn wsX2_extend wsX2_mayReadHere := goodIn_r _ [65, 1, 6, 50, 51, 52, 10, 53, 18, 66, 67, 68, 56, 69, 54, 55, 57, 70, 71, 72, 73, 7, 8, 9, 11, 12, 86, 87, 88, 89, 90, 91, 92, 93, 94, 95, 96, 97, 98, 99, 100, 101, 102, 103, 104, 105, 106, 107, 108, 109, 110, 111, 112, 113, 114, 115, 116, 117, 118, 119, 120] (by decide +kernel) (by decide +kernel)
set_option maxRecDepth 20000 in
theorem gX2_extend_X2_mayReadHere : GoodIn wsX2_extend (wsV RX2 87 RX2 yX2_mayReadHere wsX2_mayReadHere) := goodIn_app (goodIn_of _ (by decide +kernel)) ggX2_extend_X2_mayReadHere
set_option maxRecDepth 20000 in
theorem ggX2_extend_X2_isAtomic : GoodIn wsX2_extend wsX2_isAtomic := goodIn_r _ [77, 6, 78, 1, 7, 8, 9, 10, 11, 12, 50, 51, 52, 53, 18, 54, 55, 56, 57, 93, 94, 95, 96, 97, 98, 99, 100, 101, 102, 103, 104, 105, 106, 86, 87, 88, 89, 90, 91, 92, 107, 108, 109, 110, 111, 112, 113, 114, 115, 116, 117, 118, 119, 120] (by decide +kernel) (by decide +kernel)
set_option maxRecDepth 20000 in
theorem gX2_extend_X2_isAtomic : GoodIn wsX2_extend (wsV RX2 90 RX2 yX2_isAtomic wsX2_isAtomic) := goodIn_app (goodIn_of _ (by decide +kernel)) ggX2_extend_X2_isAtomic
set_option maxRecDepth 20000 in
theorem ggX2_extend_X2_place : GoodIn wsX2_extend wsX2_place := goodIn_r _ [82, 1, 5, 78, 50, 51, 52, 10, 53, 18, 83, 84, 85, 56, 0, 2, 3, 4, 6, 7, 8, 9, 11, 12, 13, 14, 15, 16, 17, 19, 20, 21, 22, 23, 24, 25, 26, 27, 28, 29, 30, 31, 32, 33, 34, 35, 36, 37, 38, 39, 40, 41, 42, 43, 44, 45, 46, 47, 48, 49, 54, 55, 57, 58, 59, 60, 61, 62, 63, 64, 65, 66, 67, 68, 69, 70, 71, 72, 73, 74, 75, 76, 77, 79, 80, 81, 86, 87, 88, 89, 90, 91, 92, 93, 94, 95, 96, 97, 98, 99, 100, 101, 102, 103, 104, 105, 106, 107, 108, 109, 110, 111, 112, 113, 114, 115, 116, 117, 118, 119, 120, 121, 122] (by decide +kernel) (by decide +kernel)
set_option maxRecDepth 20000 in
theorem gX2_extend_X2_place : GoodIn wsX2_extend (wsV RX2 94 RX2 yX2_place wsX2_place) := goodIn_app (goodIn_of _ (by decide +kernel)) ggX2_extend_X2_place
theorem dX2_extend_0 : decode cX2_extend 0 = .ok (.iload_n 2, 1) := by decide +kernel
theorem dX2_extend_1 : decode cX2_extend 1 = .ok (.aload_n 0, 1) := by decide +kernel
theorem dX2_extend_2 : decode cX2_extend 2 = .ok (.getfield 9, 3) := by decide +kernel
theorem dX2_extend_5 : decode cX2_extend 5 = .ok (.invokevirtual 52, 3) := by decide +kernel
theorem dX2_extend_8 : decode cX2_extend 8 = .ok (.if_icmp .lt 32, 3) := by decide +kernel
theorem dX2_extend_11 : decode cX2_extend 11 = .ok (.aload_n 0, 1) := by decide +kernel
theorem dX2_extend_12 : decode cX2_extend 12 = .ok (.iconst 1, 1) := by decide +kernel
theorem dX2_extend_13 : decode cX2_extend 13 = .ok (.putfield 33, 3) := by decide +kernel
theorem dX2_extend_16 : decode cX2_extend 16 = .ok (.aload_n 0, 1) := by decide +kernel
theorem dX2_extend_17 : decode cX2_extend 17 = .ok (.getfield 15, 3) := by decide +kernel
theorem dX2_extend_20 : decode cX2_extend 20 = .ok (.aload_n 0, 1) := by decide +kernel
theorem dX2_extend_21 : decode cX2_extend 21 = .ok (.getfield 29, 3) := by decide +kernel
theorem dX2_extend_24 : decode cX2_extend 24 = .ok (.aload_n 0, 1) := by decide +kernel
theorem dX2_extend_25 : decode cX2_extend 25 = .ok (.getfield 9, 3) := by decide +kernel
theorem dX2_extend_28 : decode cX2_extend 28 = .ok (.aload_n 0, 1) := by decide +kernel
theorem dX2_extend_29 : decode cX2_extend 29 = .ok (.getfield 26, 3) := by decide +kernel
theorem dX2_extend_32 : decode cX2_extend 32 = .ok (.invokevirtual 56, 3) := by decide +kernel
theorem dX2_extend_35 : decode cX2_extend 35 = .ok (.ladd, 1) := by decide +kernel
theorem dX2_extend_36 : decode cX2_extend 36 = .ok (.invokevirtual 60, 3) := by decide +kernel
theorem dX2_extend_39 : decode cX2_extend 39 = .ok (.return_, 1) := by decide +kernel
theorem dX2_extend_40 : decode cX2_extend 40 = .ok (.iconst 0, 1) := by decide +kernel
theorem dX2_extend_41 : decode cX2_extend 41 = .ok (.istore_n 3, 1) := by decide +kernel
theorem dX2_extend_42 : decode cX2_extend 42 = .ok (.iload_n 3, 1) := by decide +kernel
theorem dX2_extend_43 : decode cX2_extend 43 = .ok (.aload_n 0, 1) := by decide +kernel
theorem dX2_extend_44 : decode cX2_extend 44 = .ok (.getfield 9, 3) := by decide +kernel
theorem dX2_extend_47 : decode cX2_extend 47 = .ok (.invokevirtual 52, 3) := by decide +kernel
theorem dX2_extend_50 : decode cX2_extend 50 = .ok (.if_icmp .ge 93, 3) := by decide +kernel
theorem dX2_extend_53 : decode cX2_extend 53 = .ok (.aload_n 0, 1) := by decide +kernel
theorem dX2_extend_54 : decode cX2_extend 54 = .ok (.getfield 9, 3) := by decide +kernel
theorem dX2_extend_57 : decode cX2_extend 57 = .ok (.iload_n 3, 1) := by decide +kernel
theorem dX2_extend_58 : decode cX2_extend 58 = .ok (.invokevirtual 66, 3) := by decide +kernel
theorem dX2_extend_61 : decode cX2_extend 61 = .ok (.astore 4, 2) := by decide +kernel
theorem dX2_extend_63 : decode cX2_extend 63 = .ok (.iload_n 1, 1) := by decide +kernel
theorem dX2_extend_64 : decode cX2_extend 64 = .ok (.iload_n 3, 1) := by decide +kernel
theorem dX2_extend_65 : decode cX2_extend 65 = .ok (.invokestatic 70, 3) := by decide +kernel
theorem dX2_extend_68 : decode cX2_extend 68 = .ok (.ifCond .ne 69, 3) := by decide +kernel
theorem dX2_extend_71 : decode cX2_extend 71 = .ok (.aload 4, 2) := by decide +kernel
theorem dX2_extend_73 : decode cX2_extend 73 = .ok (.getfield 74, 3) := by decide +kernel
theorem dX2_extend_76 : decode cX2_extend 76 = .ok (.iload_n 1, 1) := by decide +kernel
theorem dX2_extend_77 : decode cX2_extend 77 = .ok (.iconst (-1), 1) := by decide +kernel
theorem dX2_extend_78 : decode cX2_extend 78 = .ok (.ixor, 1) := by decide +kernel
theorem dX2_extend_79 : decode cX2_extend 79 = .ok (.iand, 1) := by decide +kernel
theorem dX2_extend_80 : decode cX2_extend 80 = .ok (.ifCond .eq 6, 3) := by decide +kernel
theorem dX2_extend_83 : decode cX2_extend 83 = .ok (.goto 54, 3) := by decide +kernel
theorem dX2_extend_86 : decode cX2_extend 86 = .ok (.aload_n 0, 1) := by decide +kernel
theorem dX2_extend_87 : decode cX2_extend 87 = .ok (.getfield 23, 3) := by decide +kernel
theorem dX2_extend_90 : decode cX2_extend 90 = .ok (.iload_n 3, 1) := by decide +kernel
theorem dX2_extend_91 : decode cX2_extend 91 = .ok (.aload 4, 2) := by decide +kernel
theorem dX2_extend_93 : decode cX2_extend 93 = .ok (.getfield 80, 3) := by decide +kernel
theorem dX2_extend_96 : decode cX2_extend 96 = .ok (.ifCond .eq 13, 3) := by decide +kernel
theorem dX2_extend_99 : decode cX2_extend 99 = .ok (.aload_n 0, 1) := by decide +kernel
theorem dX2_extend_100 : decode cX2_extend 100 = .ok (.aload 4, 2) := by decide +kernel
theorem dX2_extend_102 : decode cX2_extend 102 = .ok (.iload_n 1, 1) := by decide +kernel
theorem dX2_extend_103 : decode cX2_extend 103 = .ok (.invokevirtual 83, 3) := by decide +kernel
theorem dX2_extend_106 : decode cX2_extend 106 = .ok (.goto 4, 3) := by decide +kernel
theorem dX2_extend_109 : decode cX2_extend 109 = .ok (.iconst (-1), 1) := by decide +kernel
theorem dX2_extend_110 : decode cX2_extend 110 = .ok (.iastore, 1) := by decide +kernel
theorem dX2_extend_111 : decode cX2_extend 111 = .ok (.aload_n 0, 1) := by decide +kernel
theorem dX2_extend_112 : decode cX2_extend 112 = .ok (.iload_n 3, 1) := by decide +kernel
theorem dX2_extend_113 : decode cX2_extend 113 = .ok (.iload_n 1, 1) := by decide +kernel
theorem dX2_extend_114 : decode cX2_extend 114 = .ok (.invokevirtual 87, 3) := by decide +kernel
theorem dX2_extend_117 : decode cX2_extend 117 = .ok (.ifCond .eq 20, 3) := by decide +kernel
theorem dX2_extend_120 : decode cX2_extend 120 = .ok (.aload_n 0, 1) := by decide +kernel
theorem dX2_extend_121 : decode cX2_extend 121 = .ok (.aload 4, 2) := by decide +kernel
theorem dX2_extend_123 : decode cX2_extend 123 = .ok (.iload_n 1, 1) := by decide +kernel
theorem dX2_extend_124 : decode cX2_extend 124 = .ok (.invokevirtual 90, 3) := by decide +kernel
theorem dX2_extend_127 : decode cX2_extend 127 = .ok (.ifCond .eq 10, 3) := by decide +kernel
theorem dX2_extend_130 : decode cX2_extend 130 = .ok (.aload_n 0, 1) := by decide +kernel
theorem dX2_extend_131 : decode cX2_extend 131 = .ok (.iload_n 3, 1) := by decide +kernel
theorem dX2_extend_132 : decode cX2_extend 132 = .ok (.iload_n 1, 1) := by decide +kernel
theorem dX2_extend_133 : decode cX2_extend 133 = .ok (.iload_n 2, 1) := by decide +kernel
theorem dX2_extend_134 : decode cX2_extend 134 = .ok (.invokevirtual 94, 3) := by decide +kernel
theorem dX2_extend_137 : decode cX2_extend 137 = .ok (.iinc 3 1, 3) := by decide +kernel
theorem dX2_extend_140 : decode cX2_extend 140 = .ok (.goto (-98), 3) := by decide +kernel
theorem dX2_extend_143 : decode cX2_extend 143 = .ok (.return_, 1) := by decide +kernel
set_option maxRecDepth 20000 in
theorem ggX2_place_X5_accessAt : GoodIn wsX2_place wsX5_accessAt := goodIn_r _ [8, 9, 107, 108, 109, 110, 111, 112, 113, 114, 115, 116, 117, 118, 119, 120] (by decide +kernel) (by decide +kernel)
set_option maxRecDepth 20000 in
theorem gX2_place_X5_accessAt : GoodIn wsX2_place (wsV RX2 66 RX5 yX5_accessAt wsX5_accessAt) := goodIn_app (goodIn_of _ (by decide +kernel)) ggX2_place_X5_accessAt
set_option maxRecDepth 20000 in
theorem ggX2_place_X2_extend : GoodIn wsX2_place wsX2_extend := goodIn_r _ [14, 1, 15, 16, 17, 2, 18, 19, 20, 21, 7, 22, 23, 24, 25, 26, 27, 28, 9, 29, 30, 31, 32, 33, 34, 35, 36, 37, 38, 39, 40, 41, 42, 43, 44, 45, 46, 47, 48, 49, 50, 51, 52, 53, 54, 55, 56, 57, 58, 59, 4, 5, 6, 8, 60, 61, 13, 62, 63, 64, 65, 66, 67, 68, 69, 70, 71, 72, 73, 74, 75, 76, 77, 78, 79, 80, 81, 82, 3, 83, 84, 85, 0, 10, 11, 12, 86, 87, 88, 89, 90, 91, 92, 93, 94, 95, 96, 97, 98, 99, 100, 101, 102, 103, 104, 105, 106, 107, 108, 109, 110, 111, 112, 113, 114, 115, 116, 117, 118, 119, 120, 121, 122] (by decide +kernel) (by decide +kernel)
set_option maxRecDepth 20000 in
theorem gX2_place_X2_extend : GoodIn wsX2_place (wsV RX2 48 RX2 yX2_extend wsX2_extend) := goodIn_app (goodIn_of _ (by decide +kernel)) ggX2_place_X2_extend
theorem dX2_place_0 : decode cX2_place 0 = .ok (.aload_n 0, 1) := by decide +kernel
theorem dX2_place_1 : decode cX2_place 1 = .ok (.getfield 9, 3) := by decide +kernel
theorem dX2_place_4 : decode cX2_place 4 = .ok (.iload_n 1, 1) := by decide +kernel
theorem dX2_place_5 : decode cX2_place 5 = .ok (.invokevirtual 66, 3) := by decide +kernel
theorem dX2_place_8 : decode cX2_place 8 = .ok (.getfield 98, 3) := by decide +kernel
theorem dX2_place_11 : decode cX2_place 11 = .ok (.istore 4, 2) := by decide +kernel
theorem dX2_place_13 : decode cX2_place 13 = .ok (.aload_n 0, 1) := by decide +kernel
theorem dX2_place_14 : decode cX2_place 14 = .ok (.getfield 26, 3) := by decide +kernel
theorem dX2_place_17 : decode cX2_place 17 = .ok (.iload 4, 2) := by decide +kernel
theorem dX2_place_19 : decode cX2_place 19 = .ok (.iaload, 1) := by decide +kernel
theorem dX2_place_20 : decode cX2_place 20 = .ok (.istore 5, 2) := by decide +kernel
theorem dX2_place_22 : decode cX2_place 22 = .ok (.aload_n 0, 1) := by decide +kernel
theorem dX2_place_23 : decode cX2_place 23 = .ok (.getfield 19, 3) := by decide +kernel
theorem dX2_place_26 : decode cX2_place 26 = .ok (.iload_n 1, 1) := by decide +kernel
theorem dX2_place_27 : decode cX2_place 27 = .ok (.iload_n 3, 1) := by decide +kernel
theorem dX2_place_28 : decode cX2_place 28 = .ok (.iastore, 1) := by decide +kernel
theorem dX2_place_29 : decode cX2_place 29 = .ok (.aload_n 0, 1) := by decide +kernel
theorem dX2_place_30 : decode cX2_place 30 = .ok (.getfield 9, 3) := by decide +kernel
theorem dX2_place_33 : decode cX2_place 33 = .ok (.iload_n 1, 1) := by decide +kernel
theorem dX2_place_34 : decode cX2_place 34 = .ok (.invokevirtual 66, 3) := by decide +kernel
theorem dX2_place_37 : decode cX2_place 37 = .ok (.getfield 101, 3) := by decide +kernel
theorem dX2_place_40 : decode cX2_place 40 = .ok (.ifCond .eq 11, 3) := by decide +kernel
theorem dX2_place_43 : decode cX2_place 43 = .ok (.aload_n 0, 1) := by decide +kernel
theorem dX2_place_44 : decode cX2_place 44 = .ok (.getfield 26, 3) := by decide +kernel
theorem dX2_place_47 : decode cX2_place 47 = .ok (.iload 4, 2) := by decide +kernel
theorem dX2_place_49 : decode cX2_place 49 = .ok (.iload_n 1, 1) := by decide +kernel
theorem dX2_place_50 : decode cX2_place 50 = .ok (.iastore, 1) := by decide +kernel
theorem dX2_place_51 : decode cX2_place 51 = .ok (.aload_n 0, 1) := by decide +kernel
theorem dX2_place_52 : decode cX2_place 52 = .ok (.iload_n 2, 1) := by decide +kernel
theorem dX2_place_53 : decode cX2_place 53 = .ok (.iconst 1, 1) := by decide +kernel
theorem dX2_place_54 : decode cX2_place 54 = .ok (.iload_n 1, 1) := by decide +kernel
theorem dX2_place_55 : decode cX2_place 55 = .ok (.ishl, 1) := by decide +kernel
theorem dX2_place_56 : decode cX2_place 56 = .ok (.ior, 1) := by decide +kernel
theorem dX2_place_57 : decode cX2_place 57 = .ok (.iload_n 3, 1) := by decide +kernel
theorem dX2_place_58 : decode cX2_place 58 = .ok (.iconst 1, 1) := by decide +kernel
theorem dX2_place_59 : decode cX2_place 59 = .ok (.iadd, 1) := by decide +kernel
theorem dX2_place_60 : decode cX2_place 60 = .ok (.invokevirtual 48, 3) := by decide +kernel
theorem dX2_place_63 : decode cX2_place 63 = .ok (.aload_n 0, 1) := by decide +kernel
theorem dX2_place_64 : decode cX2_place 64 = .ok (.getfield 26, 3) := by decide +kernel
theorem dX2_place_67 : decode cX2_place 67 = .ok (.iload 4, 2) := by decide +kernel
theorem dX2_place_69 : decode cX2_place 69 = .ok (.iload 5, 2) := by decide +kernel
theorem dX2_place_71 : decode cX2_place 71 = .ok (.iastore, 1) := by decide +kernel
theorem dX2_place_72 : decode cX2_place 72 = .ok (.return_, 1) := by decide +kernel
set_option maxRecDepth 20000 in
theorem ggX2_sourceOf_X2_isIn : GoodIn wsX2_sourceOf wsX2_isIn := goodIn_r _ [5] (by decide +kernel) (by decide +kernel)
set_option maxRecDepth 20000 in
theorem gX2_sourceOf_X2_isIn : GoodIn wsX2_sourceOf (va_wsS RX2 70 yX2_isIn wsX2_isIn) := goodIn_app (goodIn_of _ (by decide +kernel)) ggX2_sourceOf_X2_isIn
theorem dX2_sourceOf_0 : decode cX2_sourceOf 0 = .ok (.aload_n 1, 1) := by decide +kernel
theorem dX2_sourceOf_1 : decode cX2_sourceOf 1 = .ok (.getfield 104, 3) := by decide +kernel
theorem dX2_sourceOf_4 : decode cX2_sourceOf 4 = .ok (.iconst (-1), 1) := by decide +kernel
theorem dX2_sourceOf_5 : decode cX2_sourceOf 5 = .ok (.if_icmp .eq 18, 3) := by decide +kernel
theorem dX2_sourceOf_8 : decode cX2_sourceOf 8 = .ok (.iload_n 2, 1) := by decide +kernel
theorem dX2_sourceOf_9 : decode cX2_sourceOf 9 = .ok (.aload_n 1, 1) := by decide +kernel
theorem dX2_sourceOf_10 : decode cX2_sourceOf 10 = .ok (.getfield 104, 3) := by decide +kernel
theorem dX2_sourceOf_13 : decode cX2_sourceOf 13 = .ok (.invokestatic 70, 3) := by decide +kernel
theorem dX2_sourceOf_16 : decode cX2_sourceOf 16 = .ok (.ifCond .ne 7, 3) := by decide +kernel
theorem dX2_sourceOf_19 : decode cX2_sourceOf 19 = .ok (.iconst 1, 1) := by decide +kernel
theorem dX2_sourceOf_20 : decode cX2_sourceOf 20 = .ok (.goto 4, 3) := by decide +kernel
theorem dX2_sourceOf_23 : decode cX2_sourceOf 23 = .ok (.iconst 0, 1) := by decide +kernel
theorem dX2_sourceOf_24 : decode cX2_sourceOf 24 = .ok (.istore_n 3, 1) := by decide +kernel
theorem dX2_sourceOf_25 : decode cX2_sourceOf 25 = .ok (.iload_n 3, 1) := by decide +kernel
theorem dX2_sourceOf_26 : decode cX2_sourceOf 26 = .ok (.ifCond .eq 10, 3) := by decide +kernel
theorem dX2_sourceOf_29 : decode cX2_sourceOf 29 = .ok (.aload_n 1, 1) := by decide +kernel
theorem dX2_sourceOf_30 : decode cX2_sourceOf 30 = .ok (.getfield 104, 3) := by decide +kernel
theorem dX2_sourceOf_33 : decode cX2_sourceOf 33 = .ok (.goto 12, 3) := by decide +kernel
theorem dX2_sourceOf_36 : decode cX2_sourceOf 36 = .ok (.aload_n 0, 1) := by decide +kernel
theorem dX2_sourceOf_37 : decode cX2_sourceOf 37 = .ok (.getfield 26, 3) := by decide +kernel
theorem dX2_sourceOf_40 : decode cX2_sourceOf 40 = .ok (.aload_n 1, 1) := by decide +kernel
theorem dX2_sourceOf_41 : decode cX2_sourceOf 41 = .ok (.getfield 98, 3) := by decide +kernel
theorem dX2_sourceOf_44 : decode cX2_sourceOf 44 = .ok (.iaload, 1) := by decide +kernel
theorem dX2_sourceOf_45 : decode cX2_sourceOf 45 = .ok (.ireturn, 1) := by decide +kernel
set_option maxRecDepth 20000 in
theorem ggX2_mayReadHere_X5_accessAt : GoodIn wsX2_mayReadHere wsX5_accessAt := goodIn_r _ [7, 8, 47, 48, 49, 50, 51, 52, 53, 54, 55, 56, 57, 58, 59, 60] (by decide +kernel) (by decide +kernel)
set_option maxRecDepth 20000 in
theorem gX2_mayReadHere_X5_accessAt : GoodIn wsX2_mayReadHere (wsV RX2 66 RX5 yX5_accessAt wsX5_accessAt) := goodIn_app (goodIn_of _ (by decide +kernel)) ggX2_mayReadHere_X5_accessAt
set_option maxRecDepth 20000 in
theorem ggX2_mayReadHere_X2_mayForward : GoodIn wsX2_mayReadHere wsX2_mayForward := goodIn_r _ [13, 1, 14, 15, 12, 16, 3, 4, 5, 6, 7, 8, 26, 27, 28, 29, 30, 31, 32, 33, 34, 35, 36, 37, 38, 39, 40, 41, 42, 43, 44, 45, 46, 47, 48, 49, 50, 51, 52, 53, 54, 55, 56, 57, 58, 59, 60] (by decide +kernel) (by decide +kernel)
set_option maxRecDepth 20000 in
theorem gX2_mayReadHere_X2_mayForward : GoodIn wsX2_mayReadHere (wsV RX2 113 RX2 yX2_mayForward wsX2_mayForward) := goodIn_app (goodIn_of _ (by decide +kernel)) ggX2_mayReadHere_X2_mayForward
set_option maxRecDepth 20000 in
theorem ggX2_mayReadHere_X2_agreesWithTwins : GoodIn wsX2_mayReadHere wsX2_agreesWithTwins := goodIn_r _ [20, 1, 2, 21, 22, 23, 6, 24, 25, 14, 15, 12, 16, 3, 4, 5, 7, 8, 26, 27, 28, 29, 30, 31, 32, 33, 34, 35, 36, 37, 38, 39, 40, 41, 42, 43, 44, 45, 46, 47, 48, 49, 50, 51, 52, 53, 54, 55, 56, 57, 58, 59, 60] (by decide +kernel) (by decide +kernel)
set_option maxRecDepth 20000 in
theorem gX2_mayReadHere_X2_agreesWithTwins : GoodIn wsX2_mayReadHere (wsV RX2 116 RX2 yX2_agreesWithTwins wsX2_agreesWithTwins) := goodIn_app (goodIn_of _ (by decide +kernel)) ggX2_mayReadHere_X2_agreesWithTwins
theorem dX2_mayReadHere_0 : decode cX2_mayReadHere 0 = .ok (.aload_n 0, 1) := by decide +kernel
theorem dX2_mayReadHere_1 : decode cX2_mayReadHere 1 = .ok (.getfield 9, 3) := by decide +kernel
theorem dX2_mayReadHere_4 : decode cX2_mayReadHere 4 = .ok (.iload_n 1, 1) := by decide +kernel
theorem dX2_mayReadHere_5 : decode cX2_mayReadHere 5 = .ok (.invokevirtual 66, 3) := by decide +kernel
theorem dX2_mayReadHere_8 : decode cX2_mayReadHere 8 = .ok (.getfield 80, 3) := by decide +kernel
theorem dX2_mayReadHere_11 : decode cX2_mayReadHere 11 = .ok (.ifCond .ne 5, 3) := by decide +kernel
theorem dX2_mayReadHere_14 : decode cX2_mayReadHere 14 = .ok (.iconst 1, 1) := by decide +kernel
theorem dX2_mayReadHere_15 : decode cX2_mayReadHere 15 = .ok (.ireturn, 1) := by decide +kernel
theorem dX2_mayReadHere_16 : decode cX2_mayReadHere 16 = .ok (.aload_n 0, 1) := by decide +kernel
theorem dX2_mayReadHere_17 : decode cX2_mayReadHere 17 = .ok (.getfield 23, 3) := by decide +kernel
theorem dX2_mayReadHere_20 : decode cX2_mayReadHere 20 = .ok (.iload_n 1, 1) := by decide +kernel
theorem dX2_mayReadHere_21 : decode cX2_mayReadHere 21 = .ok (.iaload, 1) := by decide +kernel
theorem dX2_mayReadHere_22 : decode cX2_mayReadHere 22 = .ok (.istore_n 3, 1) := by decide +kernel
theorem dX2_mayReadHere_23 : decode cX2_mayReadHere 23 = .ok (.iload_n 3, 1) := by decide +kernel
theorem dX2_mayReadHere_24 : decode cX2_mayReadHere 24 = .ok (.iconst (-1), 1) := by decide +kernel
theorem dX2_mayReadHere_25 : decode cX2_mayReadHere 25 = .ok (.if_icmp .ne 7, 3) := by decide +kernel
theorem dX2_mayReadHere_28 : decode cX2_mayReadHere 28 = .ok (.iconst 0, 1) := by decide +kernel
theorem dX2_mayReadHere_29 : decode cX2_mayReadHere 29 = .ok (.goto 14, 3) := by decide +kernel
theorem dX2_mayReadHere_32 : decode cX2_mayReadHere 32 = .ok (.aload_n 0, 1) := by decide +kernel
theorem dX2_mayReadHere_33 : decode cX2_mayReadHere 33 = .ok (.getfield 9, 3) := by decide +kernel
theorem dX2_mayReadHere_36 : decode cX2_mayReadHere 36 = .ok (.iload_n 3, 1) := by decide +kernel
theorem dX2_mayReadHere_37 : decode cX2_mayReadHere 37 = .ok (.invokevirtual 66, 3) := by decide +kernel
theorem dX2_mayReadHere_40 : decode cX2_mayReadHere 40 = .ok (.getfield 107, 3) := by decide +kernel
theorem dX2_mayReadHere_43 : decode cX2_mayReadHere 43 = .ok (.istore 4, 2) := by decide +kernel
theorem dX2_mayReadHere_45 : decode cX2_mayReadHere 45 = .ok (.iload 4, 2) := by decide +kernel
theorem dX2_mayReadHere_47 : decode cX2_mayReadHere 47 = .ok (.aload_n 0, 1) := by decide +kernel
theorem dX2_mayReadHere_48 : decode cX2_mayReadHere 48 = .ok (.getfield 9, 3) := by decide +kernel
theorem dX2_mayReadHere_51 : decode cX2_mayReadHere 51 = .ok (.iload_n 1, 1) := by decide +kernel
theorem dX2_mayReadHere_52 : decode cX2_mayReadHere 52 = .ok (.invokevirtual 66, 3) := by decide +kernel
theorem dX2_mayReadHere_55 : decode cX2_mayReadHere 55 = .ok (.getfield 110, 3) := by decide +kernel
theorem dX2_mayReadHere_58 : decode cX2_mayReadHere 58 = .ok (.if_icmp .ne 25, 3) := by decide +kernel
theorem dX2_mayReadHere_61 : decode cX2_mayReadHere 61 = .ok (.aload_n 0, 1) := by decide +kernel
theorem dX2_mayReadHere_62 : decode cX2_mayReadHere 62 = .ok (.iload_n 3, 1) := by decide +kernel
theorem dX2_mayReadHere_63 : decode cX2_mayReadHere 63 = .ok (.iload_n 2, 1) := by decide +kernel
theorem dX2_mayReadHere_64 : decode cX2_mayReadHere 64 = .ok (.invokevirtual 113, 3) := by decide +kernel
theorem dX2_mayReadHere_67 : decode cX2_mayReadHere 67 = .ok (.ifCond .eq 16, 3) := by decide +kernel
theorem dX2_mayReadHere_70 : decode cX2_mayReadHere 70 = .ok (.aload_n 0, 1) := by decide +kernel
theorem dX2_mayReadHere_71 : decode cX2_mayReadHere 71 = .ok (.iload_n 1, 1) := by decide +kernel
theorem dX2_mayReadHere_72 : decode cX2_mayReadHere 72 = .ok (.iload_n 2, 1) := by decide +kernel
theorem dX2_mayReadHere_73 : decode cX2_mayReadHere 73 = .ok (.invokevirtual 116, 3) := by decide +kernel
theorem dX2_mayReadHere_76 : decode cX2_mayReadHere 76 = .ok (.ifCond .eq 7, 3) := by decide +kernel
theorem dX2_mayReadHere_79 : decode cX2_mayReadHere 79 = .ok (.iconst 1, 1) := by decide +kernel
theorem dX2_mayReadHere_80 : decode cX2_mayReadHere 80 = .ok (.goto 4, 3) := by decide +kernel
theorem dX2_mayReadHere_83 : decode cX2_mayReadHere 83 = .ok (.iconst 0, 1) := by decide +kernel
theorem dX2_mayReadHere_84 : decode cX2_mayReadHere 84 = .ok (.ireturn, 1) := by decide +kernel
set_option maxRecDepth 20000 in
theorem ggX2_mayForward_X2_isIn : GoodIn wsX2_mayForward wsX2_isIn := goodIn_r _ [5] (by decide +kernel) (by decide +kernel)
set_option maxRecDepth 20000 in
theorem gX2_mayForward_X2_isIn : GoodIn wsX2_mayForward (va_wsS RX2 70 yX2_isIn wsX2_isIn) := goodIn_app (goodIn_of _ (by decide +kernel)) ggX2_mayForward_X2_isIn
set_option maxRecDepth 20000 in
theorem ggX2_mayForward_X5_accessAt : GoodIn wsX2_mayForward wsX5_accessAt := goodIn_r _ [10, 11, 33, 34, 35, 36, 37, 38, 39, 40, 41, 42, 43, 44, 45, 46] (by decide +kernel) (by decide +kernel)
set_option maxRecDepth 20000 in
theorem gX2_mayForward_X5_accessAt : GoodIn wsX2_mayForward (wsV RX2 66 RX5 yX5_accessAt wsX5_accessAt) := goodIn_app (goodIn_of _ (by decide +kernel)) ggX2_mayForward_X5_accessAt
theorem dX2_mayForward_0 : decode cX2_mayForward 0 = .ok (.iload_n 1, 1) := by decide +kernel
theorem dX2_mayForward_1 : decode cX2_mayForward 1 = .ok (.iconst (-1), 1) := by decide +kernel
theorem dX2_mayForward_2 : decode cX2_mayForward 2 = .ok (.if_icmp .eq 11, 3) := by decide +kernel
theorem dX2_mayForward_5 : decode cX2_mayForward 5 = .ok (.iload_n 2, 1) := by decide +kernel
theorem dX2_mayForward_6 : decode cX2_mayForward 6 = .ok (.iload_n 1, 1) := by decide +kernel
theorem dX2_mayForward_7 : decode cX2_mayForward 7 = .ok (.invokestatic 70, 3) := by decide +kernel
theorem dX2_mayForward_10 : decode cX2_mayForward 10 = .ok (.ifCond .eq 5, 3) := by decide +kernel
theorem dX2_mayForward_13 : decode cX2_mayForward 13 = .ok (.iconst 1, 1) := by decide +kernel
theorem dX2_mayForward_14 : decode cX2_mayForward 14 = .ok (.ireturn, 1) := by decide +kernel
theorem dX2_mayForward_15 : decode cX2_mayForward 15 = .ok (.aload_n 0, 1) := by decide +kernel
theorem dX2_mayForward_16 : decode cX2_mayForward 16 = .ok (.getfield 9, 3) := by decide +kernel
theorem dX2_mayForward_19 : decode cX2_mayForward 19 = .ok (.iload_n 1, 1) := by decide +kernel
theorem dX2_mayForward_20 : decode cX2_mayForward 20 = .ok (.invokevirtual 66, 3) := by decide +kernel
theorem dX2_mayForward_23 : decode cX2_mayForward 23 = .ok (.astore_n 3, 1) := by decide +kernel
theorem dX2_mayForward_24 : decode cX2_mayForward 24 = .ok (.aload_n 3, 1) := by decide +kernel
theorem dX2_mayForward_25 : decode cX2_mayForward 25 = .ok (.getfield 119, 3) := by decide +kernel
theorem dX2_mayForward_28 : decode cX2_mayForward 28 = .ok (.iconst 1, 1) := by decide +kernel
theorem dX2_mayForward_29 : decode cX2_mayForward 29 = .ok (.if_icmp .ne 23, 3) := by decide +kernel
theorem dX2_mayForward_32 : decode cX2_mayForward 32 = .ok (.aload_n 3, 1) := by decide +kernel
theorem dX2_mayForward_33 : decode cX2_mayForward 33 = .ok (.getfield 122, 3) := by decide +kernel
theorem dX2_mayForward_36 : decode cX2_mayForward 36 = .ok (.aload_n 3, 1) := by decide +kernel
theorem dX2_mayForward_37 : decode cX2_mayForward 37 = .ok (.getfield 125, 3) := by decide +kernel
theorem dX2_mayForward_40 : decode cX2_mayForward 40 = .ok (.ior, 1) := by decide +kernel
theorem dX2_mayForward_41 : decode cX2_mayForward 41 = .ok (.iload_n 2, 1) := by decide +kernel
theorem dX2_mayForward_42 : decode cX2_mayForward 42 = .ok (.iconst (-1), 1) := by decide +kernel
theorem dX2_mayForward_43 : decode cX2_mayForward 43 = .ok (.ixor, 1) := by decide +kernel
theorem dX2_mayForward_44 : decode cX2_mayForward 44 = .ok (.iand, 1) := by decide +kernel
theorem dX2_mayForward_45 : decode cX2_mayForward 45 = .ok (.ifCond .ne 7, 3) := by decide +kernel
theorem dX2_mayForward_48 : decode cX2_mayForward 48 = .ok (.iconst 1, 1) := by decide +kernel
theorem dX2_mayForward_49 : decode cX2_mayForward 49 = .ok (.goto 4, 3) := by decide +kernel
theorem dX2_mayForward_52 : decode cX2_mayForward 52 = .ok (.iconst 0, 1) := by decide +kernel
theorem dX2_mayForward_53 : decode cX2_mayForward 53 = .ok (.ireturn, 1) := by decide +kernel
set_option maxRecDepth 20000 in
theorem ggX2_agreesWithTwins_X5_size : GoodIn wsX2_agreesWithTwins wsX5_size := goodIn_r _ [7, 8, 39, 40, 41, 42, 43, 44, 45, 46, 47, 48, 49, 50, 51, 52] (by decide +kernel) (by decide +kernel)
set_option maxRecDepth 20000 in
theorem gX2_agreesWithTwins_X5_size : GoodIn wsX2_agreesWithTwins (wsV RX2 52 RX5 yX5_size wsX5_size) := goodIn_app (goodIn_of _ (by decide +kernel)) ggX2_agreesWithTwins_X5_size
set_option maxRecDepth 20000 in
theorem ggX2_agreesWithTwins_X2_isIn : GoodIn wsX2_agreesWithTwins wsX2_isIn := goodIn_r _ [12] (by decide +kernel) (by decide +kernel)
set_option maxRecDepth 20000 in
theorem gX2_agreesWithTwins_X2_isIn : GoodIn wsX2_agreesWithTwins (va_wsS RX2 70 yX2_isIn wsX2_isIn) := goodIn_app (goodIn_of _ (by decide +kernel)) ggX2_agreesWithTwins_X2_isIn
set_option maxRecDepth 20000 in
theorem ggX2_agreesWithTwins_X5_accessAt : GoodIn wsX2_agreesWithTwins wsX5_accessAt := goodIn_r _ [16, 17, 39, 40, 41, 42, 43, 44, 45, 46, 47, 48, 49, 50, 51, 52] (by decide +kernel) (by decide +kernel)
set_option maxRecDepth 20000 in
theorem gX2_agreesWithTwins_X5_accessAt : GoodIn wsX2_agreesWithTwins (wsV RX2 66 RX5 yX5_accessAt wsX5_accessAt) := goodIn_app (goodIn_of _ (by decide +kernel)) ggX2_agreesWithTwins_X5_accessAt
theorem dX2_agreesWithTwins_0 : decode cX2_agreesWithTwins 0 = .ok (.iload_n 1, 1) := by decide +kernel
theorem dX2_agreesWithTwins_1 : decode cX2_agreesWithTwins 1 = .ok (.iconst 1, 1) := by decide +kernel
theorem dX2_agreesWithTwins_2 : decode cX2_agreesWithTwins 2 = .ok (.iadd, 1) := by decide +kernel
theorem dX2_agreesWithTwins_3 : decode cX2_agreesWithTwins 3 = .ok (.istore_n 3, 1) := by decide +kernel
theorem dX2_agreesWithTwins_4 : decode cX2_agreesWithTwins 4 = .ok (.iload_n 3, 1) := by decide +kernel
theorem dX2_agreesWithTwins_5 : decode cX2_agreesWithTwins 5 = .ok (.aload_n 0, 1) := by decide +kernel
theorem dX2_agreesWithTwins_6 : decode cX2_agreesWithTwins 6 = .ok (.getfield 9, 3) := by decide +kernel
theorem dX2_agreesWithTwins_9 : decode cX2_agreesWithTwins 9 = .ok (.invokevirtual 52, 3) := by decide +kernel
theorem dX2_agreesWithTwins_12 : decode cX2_agreesWithTwins 12 = .ok (.if_icmp .ge 52, 3) := by decide +kernel
theorem dX2_agreesWithTwins_15 : decode cX2_agreesWithTwins 15 = .ok (.iload_n 2, 1) := by decide +kernel
theorem dX2_agreesWithTwins_16 : decode cX2_agreesWithTwins 16 = .ok (.iload_n 3, 1) := by decide +kernel
theorem dX2_agreesWithTwins_17 : decode cX2_agreesWithTwins 17 = .ok (.invokestatic 70, 3) := by decide +kernel
theorem dX2_agreesWithTwins_20 : decode cX2_agreesWithTwins 20 = .ok (.ifCond .eq 38, 3) := by decide +kernel
theorem dX2_agreesWithTwins_23 : decode cX2_agreesWithTwins 23 = .ok (.aload_n 0, 1) := by decide +kernel
theorem dX2_agreesWithTwins_24 : decode cX2_agreesWithTwins 24 = .ok (.getfield 9, 3) := by decide +kernel
theorem dX2_agreesWithTwins_27 : decode cX2_agreesWithTwins 27 = .ok (.iload_n 3, 1) := by decide +kernel
theorem dX2_agreesWithTwins_28 : decode cX2_agreesWithTwins 28 = .ok (.invokevirtual 66, 3) := by decide +kernel
theorem dX2_agreesWithTwins_31 : decode cX2_agreesWithTwins 31 = .ok (.getfield 128, 3) := by decide +kernel
theorem dX2_agreesWithTwins_34 : decode cX2_agreesWithTwins 34 = .ok (.iload_n 1, 1) := by decide +kernel
theorem dX2_agreesWithTwins_35 : decode cX2_agreesWithTwins 35 = .ok (.invokestatic 70, 3) := by decide +kernel
theorem dX2_agreesWithTwins_38 : decode cX2_agreesWithTwins 38 = .ok (.ifCond .eq 20, 3) := by decide +kernel
theorem dX2_agreesWithTwins_41 : decode cX2_agreesWithTwins 41 = .ok (.aload_n 0, 1) := by decide +kernel
theorem dX2_agreesWithTwins_42 : decode cX2_agreesWithTwins 42 = .ok (.getfield 23, 3) := by decide +kernel
theorem dX2_agreesWithTwins_45 : decode cX2_agreesWithTwins 45 = .ok (.iload_n 3, 1) := by decide +kernel
theorem dX2_agreesWithTwins_46 : decode cX2_agreesWithTwins 46 = .ok (.iaload, 1) := by decide +kernel
theorem dX2_agreesWithTwins_47 : decode cX2_agreesWithTwins 47 = .ok (.aload_n 0, 1) := by decide +kernel
theorem dX2_agreesWithTwins_48 : decode cX2_agreesWithTwins 48 = .ok (.getfield 23, 3) := by decide +kernel
theorem dX2_agreesWithTwins_51 : decode cX2_agreesWithTwins 51 = .ok (.iload_n 1, 1) := by decide +kernel
theorem dX2_agreesWithTwins_52 : decode cX2_agreesWithTwins 52 = .ok (.iaload, 1) := by decide +kernel
theorem dX2_agreesWithTwins_53 : decode cX2_agreesWithTwins 53 = .ok (.if_icmp .eq 5, 3) := by decide +kernel
theorem dX2_agreesWithTwins_56 : decode cX2_agreesWithTwins 56 = .ok (.iconst 0, 1) := by decide +kernel
theorem dX2_agreesWithTwins_57 : decode cX2_agreesWithTwins 57 = .ok (.ireturn, 1) := by decide +kernel
theorem dX2_agreesWithTwins_58 : decode cX2_agreesWithTwins 58 = .ok (.iinc 3 1, 3) := by decide +kernel
theorem dX2_agreesWithTwins_61 : decode cX2_agreesWithTwins 61 = .ok (.goto (-57), 3) := by decide +kernel
theorem dX2_agreesWithTwins_64 : decode cX2_agreesWithTwins 64 = .ok (.iconst 1, 1) := by decide +kernel
theorem dX2_agreesWithTwins_65 : decode cX2_agreesWithTwins 65 = .ok (.ireturn, 1) := by decide +kernel
set_option maxRecDepth 20000 in
theorem ggX2_isAtomic_X5_size : GoodIn wsX2_isAtomic wsX5_size := goodIn_r _ [8, 9, 40, 41, 42, 43, 44, 45, 46, 47, 48, 49, 50, 51, 52, 53] (by decide +kernel) (by decide +kernel)
set_option maxRecDepth 20000 in
theorem gX2_isAtomic_X5_size : GoodIn wsX2_isAtomic (wsV RX2 52 RX5 yX5_size wsX5_size) := goodIn_app (goodIn_of _ (by decide +kernel)) ggX2_isAtomic_X5_size
set_option maxRecDepth 20000 in
theorem ggX2_isAtomic_X5_accessAt : GoodIn wsX2_isAtomic wsX5_accessAt := goodIn_r _ [13, 14, 40, 41, 42, 43, 44, 45, 46, 47, 48, 49, 50, 51, 52, 53] (by decide +kernel) (by decide +kernel)
set_option maxRecDepth 20000 in
theorem gX2_isAtomic_X5_accessAt : GoodIn wsX2_isAtomic (wsV RX2 66 RX5 yX5_accessAt wsX5_accessAt) := goodIn_app (goodIn_of _ (by decide +kernel)) ggX2_isAtomic_X5_accessAt
set_option maxRecDepth 20000 in
theorem ggX2_isAtomic_X2_isIn : GoodIn wsX2_isAtomic wsX2_isIn := goodIn_r _ [18] (by decide +kernel) (by decide +kernel)
set_option maxRecDepth 20000 in
theorem gX2_isAtomic_X2_isIn : GoodIn wsX2_isAtomic (va_wsS RX2 70 yX2_isIn wsX2_isIn) := goodIn_app (goodIn_of _ (by decide +kernel)) ggX2_isAtomic_X2_isIn
theorem dX2_isAtomic_0 : decode cX2_isAtomic 0 = .ok (.aload_n 1, 1) := by decide +kernel
theorem dX2_isAtomic_1 : decode cX2_isAtomic 1 = .ok (.getfield 131, 3) := by decide +kernel
theorem dX2_isAtomic_4 : decode cX2_isAtomic 4 = .ok (.iconst (-1), 1) := by decide +kernel
theorem dX2_isAtomic_5 : decode cX2_isAtomic 5 = .ok (.if_icmp .ne 5, 3) := by decide +kernel
theorem dX2_isAtomic_8 : decode cX2_isAtomic 8 = .ok (.iconst 1, 1) := by decide +kernel
theorem dX2_isAtomic_9 : decode cX2_isAtomic 9 = .ok (.ireturn, 1) := by decide +kernel
theorem dX2_isAtomic_10 : decode cX2_isAtomic 10 = .ok (.aload_n 0, 1) := by decide +kernel
theorem dX2_isAtomic_11 : decode cX2_isAtomic 11 = .ok (.getfield 23, 3) := by decide +kernel
theorem dX2_isAtomic_14 : decode cX2_isAtomic 14 = .ok (.aload_n 1, 1) := by decide +kernel
theorem dX2_isAtomic_15 : decode cX2_isAtomic 15 = .ok (.getfield 131, 3) := by decide +kernel
theorem dX2_isAtomic_18 : decode cX2_isAtomic 18 = .ok (.iaload, 1) := by decide +kernel
theorem dX2_isAtomic_19 : decode cX2_isAtomic 19 = .ok (.istore_n 3, 1) := by decide +kernel
theorem dX2_isAtomic_20 : decode cX2_isAtomic 20 = .ok (.iload_n 3, 1) := by decide +kernel
theorem dX2_isAtomic_21 : decode cX2_isAtomic 21 = .ok (.iconst (-1), 1) := by decide +kernel
theorem dX2_isAtomic_22 : decode cX2_isAtomic 22 = .ok (.if_icmp .ne 7, 3) := by decide +kernel
theorem dX2_isAtomic_25 : decode cX2_isAtomic 25 = .ok (.iconst (-1), 1) := by decide +kernel
theorem dX2_isAtomic_26 : decode cX2_isAtomic 26 = .ok (.goto 9, 3) := by decide +kernel
theorem dX2_isAtomic_29 : decode cX2_isAtomic 29 = .ok (.aload_n 0, 1) := by decide +kernel
theorem dX2_isAtomic_30 : decode cX2_isAtomic 30 = .ok (.getfield 19, 3) := by decide +kernel
theorem dX2_isAtomic_33 : decode cX2_isAtomic 33 = .ok (.iload_n 3, 1) := by decide +kernel
theorem dX2_isAtomic_34 : decode cX2_isAtomic 34 = .ok (.iaload, 1) := by decide +kernel
theorem dX2_isAtomic_35 : decode cX2_isAtomic 35 = .ok (.istore 4, 2) := by decide +kernel
theorem dX2_isAtomic_37 : decode cX2_isAtomic 37 = .ok (.iconst 0, 1) := by decide +kernel
theorem dX2_isAtomic_38 : decode cX2_isAtomic 38 = .ok (.istore 5, 2) := by decide +kernel
theorem dX2_isAtomic_40 : decode cX2_isAtomic 40 = .ok (.iload 5, 2) := by decide +kernel
theorem dX2_isAtomic_42 : decode cX2_isAtomic 42 = .ok (.aload_n 0, 1) := by decide +kernel
theorem dX2_isAtomic_43 : decode cX2_isAtomic 43 = .ok (.getfield 9, 3) := by decide +kernel
theorem dX2_isAtomic_46 : decode cX2_isAtomic 46 = .ok (.invokevirtual 52, 3) := by decide +kernel
theorem dX2_isAtomic_49 : decode cX2_isAtomic 49 = .ok (.if_icmp .ge 87, 3) := by decide +kernel
theorem dX2_isAtomic_52 : decode cX2_isAtomic 52 = .ok (.aload_n 0, 1) := by decide +kernel
theorem dX2_isAtomic_53 : decode cX2_isAtomic 53 = .ok (.getfield 9, 3) := by decide +kernel
theorem dX2_isAtomic_56 : decode cX2_isAtomic 56 = .ok (.iload 5, 2) := by decide +kernel
theorem dX2_isAtomic_58 : decode cX2_isAtomic 58 = .ok (.invokevirtual 66, 3) := by decide +kernel
theorem dX2_isAtomic_61 : decode cX2_isAtomic 61 = .ok (.astore 6, 2) := by decide +kernel
theorem dX2_isAtomic_63 : decode cX2_isAtomic 63 = .ok (.aload 6, 2) := by decide +kernel
theorem dX2_isAtomic_65 : decode cX2_isAtomic 65 = .ok (.getfield 101, 3) := by decide +kernel
theorem dX2_isAtomic_68 : decode cX2_isAtomic 68 = .ok (.ifCond .eq 31, 3) := by decide +kernel
theorem dX2_isAtomic_71 : decode cX2_isAtomic 71 = .ok (.aload 6, 2) := by decide +kernel
theorem dX2_isAtomic_73 : decode cX2_isAtomic 73 = .ok (.getfield 134, 3) := by decide +kernel
theorem dX2_isAtomic_76 : decode cX2_isAtomic 76 = .ok (.aload_n 1, 1) := by decide +kernel
theorem dX2_isAtomic_77 : decode cX2_isAtomic 77 = .ok (.getfield 134, 3) := by decide +kernel
theorem dX2_isAtomic_80 : decode cX2_isAtomic 80 = .ok (.if_icmp .eq 19, 3) := by decide +kernel
theorem dX2_isAtomic_83 : decode cX2_isAtomic 83 = .ok (.aload 6, 2) := by decide +kernel
theorem dX2_isAtomic_85 : decode cX2_isAtomic 85 = .ok (.getfield 98, 3) := by decide +kernel
theorem dX2_isAtomic_88 : decode cX2_isAtomic 88 = .ok (.aload_n 1, 1) := by decide +kernel
theorem dX2_isAtomic_89 : decode cX2_isAtomic 89 = .ok (.getfield 98, 3) := by decide +kernel
theorem dX2_isAtomic_92 : decode cX2_isAtomic 92 = .ok (.if_icmp .ne 7, 3) := by decide +kernel
theorem dX2_isAtomic_95 : decode cX2_isAtomic 95 = .ok (.iconst 1, 1) := by decide +kernel
theorem dX2_isAtomic_96 : decode cX2_isAtomic 96 = .ok (.goto 4, 3) := by decide +kernel
theorem dX2_isAtomic_99 : decode cX2_isAtomic 99 = .ok (.iconst 0, 1) := by decide +kernel
theorem dX2_isAtomic_100 : decode cX2_isAtomic 100 = .ok (.istore 7, 2) := by decide +kernel
theorem dX2_isAtomic_102 : decode cX2_isAtomic 102 = .ok (.iload_n 2, 1) := by decide +kernel
theorem dX2_isAtomic_103 : decode cX2_isAtomic 103 = .ok (.iload 5, 2) := by decide +kernel
theorem dX2_isAtomic_105 : decode cX2_isAtomic 105 = .ok (.invokestatic 70, 3) := by decide +kernel
theorem dX2_isAtomic_108 : decode cX2_isAtomic 108 = .ok (.ifCond .eq 22, 3) := by decide +kernel
theorem dX2_isAtomic_111 : decode cX2_isAtomic 111 = .ok (.iload 7, 2) := by decide +kernel
theorem dX2_isAtomic_113 : decode cX2_isAtomic 113 = .ok (.ifCond .eq 17, 3) := by decide +kernel
theorem dX2_isAtomic_116 : decode cX2_isAtomic 116 = .ok (.aload_n 0, 1) := by decide +kernel
theorem dX2_isAtomic_117 : decode cX2_isAtomic 117 = .ok (.getfield 19, 3) := by decide +kernel
theorem dX2_isAtomic_120 : decode cX2_isAtomic 120 = .ok (.iload 5, 2) := by decide +kernel
theorem dX2_isAtomic_122 : decode cX2_isAtomic 122 = .ok (.iaload, 1) := by decide +kernel
theorem dX2_isAtomic_123 : decode cX2_isAtomic 123 = .ok (.iload 4, 2) := by decide +kernel
theorem dX2_isAtomic_125 : decode cX2_isAtomic 125 = .ok (.if_icmp .le 5, 3) := by decide +kernel
theorem dX2_isAtomic_128 : decode cX2_isAtomic 128 = .ok (.iconst 0, 1) := by decide +kernel
theorem dX2_isAtomic_129 : decode cX2_isAtomic 129 = .ok (.ireturn, 1) := by decide +kernel
theorem dX2_isAtomic_130 : decode cX2_isAtomic 130 = .ok (.iinc 5 1, 3) := by decide +kernel
theorem dX2_isAtomic_133 : decode cX2_isAtomic 133 = .ok (.goto (-93), 3) := by decide +kernel
theorem dX2_isAtomic_136 : decode cX2_isAtomic 136 = .ok (.iconst 1, 1) := by decide +kernel
theorem dX2_isAtomic_137 : decode cX2_isAtomic 137 = .ok (.ireturn, 1) := by decide +kernel
theorem dX2_isIn_0 : decode cX2_isIn 0 = .ok (.iload_n 0, 1) := by decide +kernel
theorem dX2_isIn_1 : decode cX2_isIn 1 = .ok (.iload_n 1, 1) := by decide +kernel
theorem dX2_isIn_2 : decode cX2_isIn 2 = .ok (.ishr, 1) := by decide +kernel
theorem dX2_isIn_3 : decode cX2_isIn 3 = .ok (.iconst 1, 1) := by decide +kernel
theorem dX2_isIn_4 : decode cX2_isIn 4 = .ok (.iand, 1) := by decide +kernel
theorem dX2_isIn_5 : decode cX2_isIn 5 = .ok (.ifCond .eq 7, 3) := by decide +kernel
theorem dX2_isIn_8 : decode cX2_isIn 8 = .ok (.iconst 1, 1) := by decide +kernel
theorem dX2_isIn_9 : decode cX2_isIn 9 = .ok (.goto 4, 3) := by decide +kernel
theorem dX2_isIn_12 : decode cX2_isIn 12 = .ok (.iconst 0, 1) := by decide +kernel
theorem dX2_isIn_13 : decode cX2_isIn 13 = .ok (.ireturn, 1) := by decide +kernel
theorem dX3_init_0 : decode cX3_init 0 = .ok (.aload_n 0, 1) := by decide +kernel
theorem dX3_init_1 : decode cX3_init 1 = .ok (.invokespecial 3, 3) := by decide +kernel
theorem dX3_init_4 : decode cX3_init 4 = .ok (.aload_n 0, 1) := by decide +kernel
theorem dX3_init_5 : decode cX3_init 5 = .ok (.bipush 64, 2) := by decide +kernel
theorem dX3_init_7 : decode cX3_init 7 = .ok (.newarray .long, 2) := by decide +kernel
theorem dX3_init_9 : decode cX3_init 9 = .ok (.putfield 9, 3) := by decide +kernel
theorem dX3_init_12 : decode cX3_init 12 = .ok (.aload_n 0, 1) := by decide +kernel
theorem dX3_init_13 : decode cX3_init 13 = .ok (.iconst 0, 1) := by decide +kernel
theorem dX3_init_14 : decode cX3_init 14 = .ok (.putfield 15, 3) := by decide +kernel
theorem dX3_init_17 : decode cX3_init 17 = .ok (.return_, 1) := by decide +kernel
theorem dX3_removeAll_0 : decode cX3_removeAll 0 = .ok (.aload_n 0, 1) := by decide +kernel
theorem dX3_removeAll_1 : decode cX3_removeAll 1 = .ok (.iconst 0, 1) := by decide +kernel
theorem dX3_removeAll_2 : decode cX3_removeAll 2 = .ok (.putfield 15, 3) := by decide +kernel
theorem dX3_removeAll_5 : decode cX3_removeAll 5 = .ok (.return_, 1) := by decide +kernel
theorem dX3_size_0 : decode cX3_size 0 = .ok (.aload_n 0, 1) := by decide +kernel
theorem dX3_size_1 : decode cX3_size 1 = .ok (.getfield 15, 3) := by decide +kernel
theorem dX3_size_4 : decode cX3_size 4 = .ok (.ireturn, 1) := by decide +kernel
theorem dX3_at_0 : decode cX3_at 0 = .ok (.iload_n 1, 1) := by decide +kernel
theorem dX3_at_1 : decode cX3_at 1 = .ok (.ifCond .lt 20, 3) := by decide +kernel
theorem dX3_at_4 : decode cX3_at 4 = .ok (.iload_n 1, 1) := by decide +kernel
theorem dX3_at_5 : decode cX3_at 5 = .ok (.aload_n 0, 1) := by decide +kernel
theorem dX3_at_6 : decode cX3_at 6 = .ok (.getfield 15, 3) := by decide +kernel
theorem dX3_at_9 : decode cX3_at 9 = .ok (.if_icmp .ge 12, 3) := by decide +kernel
theorem dX3_at_12 : decode cX3_at 12 = .ok (.aload_n 0, 1) := by decide +kernel
theorem dX3_at_13 : decode cX3_at 13 = .ok (.getfield 9, 3) := by decide +kernel
theorem dX3_at_16 : decode cX3_at 16 = .ok (.iload_n 1, 1) := by decide +kernel
theorem dX3_at_17 : decode cX3_at 17 = .ok (.laload, 1) := by decide +kernel
theorem dX3_at_18 : decode cX3_at 18 = .ok (.goto 6, 3) := by decide +kernel
theorem dX3_at_21 : decode cX3_at 21 = .ok (.ldc2_w 19, 3) := by decide +kernel
theorem dX3_at_24 : decode cX3_at 24 = .ok (.lreturn, 1) := by decide +kernel
set_option maxRecDepth 20000 in
theorem ggX3_holds_X3_spotOf : GoodIn wsX3_holds wsX3_spotOf := goodIn_r _ [7, 1, 2, 8, 9] (by decide +kernel) (by decide +kernel)
set_option maxRecDepth 20000 in
theorem gX3_holds_X3_spotOf : GoodIn wsX3_holds (wsV RX3 21 RX3 yX3_spotOf wsX3_spotOf) := goodIn_app (goodIn_of _ (by decide +kernel)) ggX3_holds_X3_spotOf
theorem dX3_holds_0 : decode cX3_holds 0 = .ok (.aload_n 0, 1) := by decide +kernel
theorem dX3_holds_1 : decode cX3_holds 1 = .ok (.lload_n 1, 1) := by decide +kernel
theorem dX3_holds_2 : decode cX3_holds 2 = .ok (.invokevirtual 21, 3) := by decide +kernel
theorem dX3_holds_5 : decode cX3_holds 5 = .ok (.istore_n 3, 1) := by decide +kernel
theorem dX3_holds_6 : decode cX3_holds 6 = .ok (.iload_n 3, 1) := by decide +kernel
theorem dX3_holds_7 : decode cX3_holds 7 = .ok (.aload_n 0, 1) := by decide +kernel
theorem dX3_holds_8 : decode cX3_holds 8 = .ok (.getfield 15, 3) := by decide +kernel
theorem dX3_holds_11 : decode cX3_holds 11 = .ok (.if_icmp .ge 18, 3) := by decide +kernel
theorem dX3_holds_14 : decode cX3_holds 14 = .ok (.aload_n 0, 1) := by decide +kernel
theorem dX3_holds_15 : decode cX3_holds 15 = .ok (.getfield 9, 3) := by decide +kernel
theorem dX3_holds_18 : decode cX3_holds 18 = .ok (.iload_n 3, 1) := by decide +kernel
theorem dX3_holds_19 : decode cX3_holds 19 = .ok (.laload, 1) := by decide +kernel
theorem dX3_holds_20 : decode cX3_holds 20 = .ok (.lload_n 1, 1) := by decide +kernel
theorem dX3_holds_21 : decode cX3_holds 21 = .ok (.lcmp, 1) := by decide +kernel
theorem dX3_holds_22 : decode cX3_holds 22 = .ok (.ifCond .ne 7, 3) := by decide +kernel
theorem dX3_holds_25 : decode cX3_holds 25 = .ok (.iconst 1, 1) := by decide +kernel
theorem dX3_holds_26 : decode cX3_holds 26 = .ok (.goto 4, 3) := by decide +kernel
theorem dX3_holds_29 : decode cX3_holds 29 = .ok (.iconst 0, 1) := by decide +kernel
theorem dX3_holds_30 : decode cX3_holds 30 = .ok (.ireturn, 1) := by decide +kernel
set_option maxRecDepth 20000 in
theorem ggX3_keep_X3_spotOf : GoodIn wsX3_keep wsX3_spotOf := goodIn_r _ [11, 1, 2, 28, 29] (by decide +kernel) (by decide +kernel)
set_option maxRecDepth 20000 in
theorem gX3_keep_X3_spotOf : GoodIn wsX3_keep (wsV RX3 21 RX3 yX3_spotOf wsX3_spotOf) := goodIn_app (goodIn_of _ (by decide +kernel)) ggX3_keep_X3_spotOf
set_option maxRecDepth 20000 in
theorem ggX3_keep_J7_copyOf_c38d5 : GoodIn wsX3_keep wsJ7_copyOf_c38d5 := goodIn_r _ [15, 16, 17, 18, 19, 20, 21, 22, 23, 24, 25, 26, 27, 4, 5, 6] (by decide +kernel) (by decide +kernel)
set_option maxRecDepth 20000 in
theorem gX3_keep_J7_copyOf_c38d5 : GoodIn wsX3_keep (va_wsS RX3 25 yJ7_copyOf_c38d5 wsJ7_copyOf_c38d5) := goodIn_app (goodIn_of _ (by decide +kernel)) ggX3_keep_J7_copyOf_c38d5
theorem dX3_keep_0 : decode cX3_keep 0 = .ok (.aload_n 0, 1) := by decide +kernel
theorem dX3_keep_1 : decode cX3_keep 1 = .ok (.lload_n 1, 1) := by decide +kernel
theorem dX3_keep_2 : decode cX3_keep 2 = .ok (.invokevirtual 21, 3) := by decide +kernel
theorem dX3_keep_5 : decode cX3_keep 5 = .ok (.istore_n 3, 1) := by decide +kernel
theorem dX3_keep_6 : decode cX3_keep 6 = .ok (.iload_n 3, 1) := by decide +kernel
theorem dX3_keep_7 : decode cX3_keep 7 = .ok (.aload_n 0, 1) := by decide +kernel
theorem dX3_keep_8 : decode cX3_keep 8 = .ok (.getfield 15, 3) := by decide +kernel
theorem dX3_keep_11 : decode cX3_keep 11 = .ok (.if_icmp .ge 15, 3) := by decide +kernel
theorem dX3_keep_14 : decode cX3_keep 14 = .ok (.aload_n 0, 1) := by decide +kernel
theorem dX3_keep_15 : decode cX3_keep 15 = .ok (.getfield 9, 3) := by decide +kernel
theorem dX3_keep_18 : decode cX3_keep 18 = .ok (.iload_n 3, 1) := by decide +kernel
theorem dX3_keep_19 : decode cX3_keep 19 = .ok (.laload, 1) := by decide +kernel
theorem dX3_keep_20 : decode cX3_keep 20 = .ok (.lload_n 1, 1) := by decide +kernel
theorem dX3_keep_21 : decode cX3_keep 21 = .ok (.lcmp, 1) := by decide +kernel
theorem dX3_keep_22 : decode cX3_keep 22 = .ok (.ifCond .ne 4, 3) := by decide +kernel
theorem dX3_keep_25 : decode cX3_keep 25 = .ok (.return_, 1) := by decide +kernel
theorem dX3_keep_26 : decode cX3_keep 26 = .ok (.aload_n 0, 1) := by decide +kernel
theorem dX3_keep_27 : decode cX3_keep 27 = .ok (.getfield 15, 3) := by decide +kernel
theorem dX3_keep_30 : decode cX3_keep 30 = .ok (.aload_n 0, 1) := by decide +kernel
theorem dX3_keep_31 : decode cX3_keep 31 = .ok (.getfield 9, 3) := by decide +kernel
theorem dX3_keep_34 : decode cX3_keep 34 = .ok (.arraylength, 1) := by decide +kernel
theorem dX3_keep_35 : decode cX3_keep 35 = .ok (.if_icmp .lt 21, 3) := by decide +kernel
theorem dX3_keep_38 : decode cX3_keep 38 = .ok (.aload_n 0, 1) := by decide +kernel
theorem dX3_keep_39 : decode cX3_keep 39 = .ok (.aload_n 0, 1) := by decide +kernel
theorem dX3_keep_40 : decode cX3_keep 40 = .ok (.getfield 9, 3) := by decide +kernel
theorem dX3_keep_43 : decode cX3_keep 43 = .ok (.aload_n 0, 1) := by decide +kernel
theorem dX3_keep_44 : decode cX3_keep 44 = .ok (.getfield 9, 3) := by decide +kernel
theorem dX3_keep_47 : decode cX3_keep 47 = .ok (.arraylength, 1) := by decide +kernel
theorem dX3_keep_48 : decode cX3_keep 48 = .ok (.iconst 2, 1) := by decide +kernel
theorem dX3_keep_49 : decode cX3_keep 49 = .ok (.imul, 1) := by decide +kernel
theorem dX3_keep_50 : decode cX3_keep 50 = .ok (.invokestatic 25, 3) := by decide +kernel
theorem dX3_keep_53 : decode cX3_keep 53 = .ok (.putfield 9, 3) := by decide +kernel
theorem dX3_keep_56 : decode cX3_keep 56 = .ok (.aload_n 0, 1) := by decide +kernel
theorem dX3_keep_57 : decode cX3_keep 57 = .ok (.getfield 9, 3) := by decide +kernel
theorem dX3_keep_60 : decode cX3_keep 60 = .ok (.iload_n 3, 1) := by decide +kernel
theorem dX3_keep_61 : decode cX3_keep 61 = .ok (.aload_n 0, 1) := by decide +kernel
theorem dX3_keep_62 : decode cX3_keep 62 = .ok (.getfield 9, 3) := by decide +kernel
theorem dX3_keep_65 : decode cX3_keep 65 = .ok (.iload_n 3, 1) := by decide +kernel
theorem dX3_keep_66 : decode cX3_keep 66 = .ok (.iconst 1, 1) := by decide +kernel
theorem dX3_keep_67 : decode cX3_keep 67 = .ok (.iadd, 1) := by decide +kernel
theorem dX3_keep_68 : decode cX3_keep 68 = .ok (.aload_n 0, 1) := by decide +kernel
theorem dX3_keep_69 : decode cX3_keep 69 = .ok (.getfield 15, 3) := by decide +kernel
theorem dX3_keep_72 : decode cX3_keep 72 = .ok (.iload_n 3, 1) := by decide +kernel
theorem dX3_keep_73 : decode cX3_keep 73 = .ok (.isub, 1) := by decide +kernel
theorem dX3_keep_74 : decode cX3_keep 74 = .ok (.invokestatic 31, 3) := by decide +kernel
theorem dX3_keep_77 : decode cX3_keep 77 = .ok (.aload_n 0, 1) := by decide +kernel
theorem dX3_keep_78 : decode cX3_keep 78 = .ok (.getfield 9, 3) := by decide +kernel
theorem dX3_keep_81 : decode cX3_keep 81 = .ok (.iload_n 3, 1) := by decide +kernel
theorem dX3_keep_82 : decode cX3_keep 82 = .ok (.lload_n 1, 1) := by decide +kernel
theorem dX3_keep_83 : decode cX3_keep 83 = .ok (.lastore, 1) := by decide +kernel
theorem dX3_keep_84 : decode cX3_keep 84 = .ok (.aload_n 0, 1) := by decide +kernel
theorem dX3_keep_85 : decode cX3_keep 85 = .ok (.dup, 1) := by decide +kernel
theorem dX3_keep_86 : decode cX3_keep 86 = .ok (.getfield 15, 3) := by decide +kernel
theorem dX3_keep_89 : decode cX3_keep 89 = .ok (.iconst 1, 1) := by decide +kernel
theorem dX3_keep_90 : decode cX3_keep 90 = .ok (.iadd, 1) := by decide +kernel
theorem dX3_keep_91 : decode cX3_keep 91 = .ok (.putfield 15, 3) := by decide +kernel
theorem dX3_keep_94 : decode cX3_keep 94 = .ok (.return_, 1) := by decide +kernel
set_option maxRecDepth 20000 in
theorem ggX3_howMany_X3_partOf : GoodIn wsX3_howMany wsX3_partOf := goodIn_r _ [6] (by decide +kernel) (by decide +kernel)
set_option maxRecDepth 20000 in
theorem gX3_howMany_X3_partOf : GoodIn wsX3_howMany (va_wsS RX3 37 yX3_partOf wsX3_partOf) := goodIn_app (goodIn_of _ (by decide +kernel)) ggX3_howMany_X3_partOf
theorem dX3_howMany_0 : decode cX3_howMany 0 = .ok (.iconst 0, 1) := by decide +kernel
theorem dX3_howMany_1 : decode cX3_howMany 1 = .ok (.istore 5, 2) := by decide +kernel
theorem dX3_howMany_3 : decode cX3_howMany 3 = .ok (.iconst 0, 1) := by decide +kernel
theorem dX3_howMany_4 : decode cX3_howMany 4 = .ok (.istore 6, 2) := by decide +kernel
theorem dX3_howMany_6 : decode cX3_howMany 6 = .ok (.iload 6, 2) := by decide +kernel
theorem dX3_howMany_8 : decode cX3_howMany 8 = .ok (.aload_n 0, 1) := by decide +kernel
theorem dX3_howMany_9 : decode cX3_howMany 9 = .ok (.getfield 15, 3) := by decide +kernel
theorem dX3_howMany_12 : decode cX3_howMany 12 = .ok (.if_icmp .ge 43, 3) := by decide +kernel
theorem dX3_howMany_15 : decode cX3_howMany 15 = .ok (.aload_n 0, 1) := by decide +kernel
theorem dX3_howMany_16 : decode cX3_howMany 16 = .ok (.getfield 9, 3) := by decide +kernel
theorem dX3_howMany_19 : decode cX3_howMany 19 = .ok (.iload 6, 2) := by decide +kernel
theorem dX3_howMany_21 : decode cX3_howMany 21 = .ok (.laload, 1) := by decide +kernel
theorem dX3_howMany_22 : decode cX3_howMany 22 = .ok (.iload_n 1, 1) := by decide +kernel
theorem dX3_howMany_23 : decode cX3_howMany 23 = .ok (.invokestatic 37, 3) := by decide +kernel
theorem dX3_howMany_26 : decode cX3_howMany 26 = .ok (.iload_n 2, 1) := by decide +kernel
theorem dX3_howMany_27 : decode cX3_howMany 27 = .ok (.if_icmp .ne 22, 3) := by decide +kernel
theorem dX3_howMany_30 : decode cX3_howMany 30 = .ok (.aload_n 0, 1) := by decide +kernel
theorem dX3_howMany_31 : decode cX3_howMany 31 = .ok (.getfield 9, 3) := by decide +kernel
theorem dX3_howMany_34 : decode cX3_howMany 34 = .ok (.iload 6, 2) := by decide +kernel
theorem dX3_howMany_36 : decode cX3_howMany 36 = .ok (.laload, 1) := by decide +kernel
theorem dX3_howMany_37 : decode cX3_howMany 37 = .ok (.iload_n 3, 1) := by decide +kernel
theorem dX3_howMany_38 : decode cX3_howMany 38 = .ok (.invokestatic 37, 3) := by decide +kernel
theorem dX3_howMany_41 : decode cX3_howMany 41 = .ok (.iload 4, 2) := by decide +kernel
theorem dX3_howMany_43 : decode cX3_howMany 43 = .ok (.if_icmp .ne 6, 3) := by decide +kernel
theorem dX3_howMany_46 : decode cX3_howMany 46 = .ok (.iinc 5 1, 3) := by decide +kernel
theorem dX3_howMany_49 : decode cX3_howMany 49 = .ok (.iinc 6 1, 3) := by decide +kernel
theorem dX3_howMany_52 : decode cX3_howMany 52 = .ok (.goto (-46), 3) := by decide +kernel
theorem dX3_howMany_55 : decode cX3_howMany 55 = .ok (.iload 5, 2) := by decide +kernel
theorem dX3_howMany_57 : decode cX3_howMany 57 = .ok (.ireturn, 1) := by decide +kernel
theorem dX3_spotOf_0 : decode cX3_spotOf 0 = .ok (.iconst 0, 1) := by decide +kernel
theorem dX3_spotOf_1 : decode cX3_spotOf 1 = .ok (.istore_n 3, 1) := by decide +kernel
theorem dX3_spotOf_2 : decode cX3_spotOf 2 = .ok (.aload_n 0, 1) := by decide +kernel
theorem dX3_spotOf_3 : decode cX3_spotOf 3 = .ok (.getfield 15, 3) := by decide +kernel
theorem dX3_spotOf_6 : decode cX3_spotOf 6 = .ok (.istore 4, 2) := by decide +kernel
theorem dX3_spotOf_8 : decode cX3_spotOf 8 = .ok (.iconst 0, 1) := by decide +kernel
theorem dX3_spotOf_9 : decode cX3_spotOf 9 = .ok (.istore 5, 2) := by decide +kernel
theorem dX3_spotOf_11 : decode cX3_spotOf 11 = .ok (.iload_n 3, 1) := by decide +kernel
theorem dX3_spotOf_12 : decode cX3_spotOf 12 = .ok (.iload 4, 2) := by decide +kernel
theorem dX3_spotOf_14 : decode cX3_spotOf 14 = .ok (.if_icmp .ge 48, 3) := by decide +kernel
theorem dX3_spotOf_17 : decode cX3_spotOf 17 = .ok (.iload 5, 2) := by decide +kernel
theorem dX3_spotOf_19 : decode cX3_spotOf 19 = .ok (.bipush 32, 2) := by decide +kernel
theorem dX3_spotOf_21 : decode cX3_spotOf 21 = .ok (.if_icmp .ge 41, 3) := by decide +kernel
theorem dX3_spotOf_24 : decode cX3_spotOf 24 = .ok (.iload_n 3, 1) := by decide +kernel
theorem dX3_spotOf_25 : decode cX3_spotOf 25 = .ok (.iload 4, 2) := by decide +kernel
theorem dX3_spotOf_27 : decode cX3_spotOf 27 = .ok (.iadd, 1) := by decide +kernel
theorem dX3_spotOf_28 : decode cX3_spotOf 28 = .ok (.iconst 2, 1) := by decide +kernel
theorem dX3_spotOf_29 : decode cX3_spotOf 29 = .ok (.idiv, 1) := by decide +kernel
theorem dX3_spotOf_30 : decode cX3_spotOf 30 = .ok (.istore 6, 2) := by decide +kernel
theorem dX3_spotOf_32 : decode cX3_spotOf 32 = .ok (.aload_n 0, 1) := by decide +kernel
theorem dX3_spotOf_33 : decode cX3_spotOf 33 = .ok (.getfield 9, 3) := by decide +kernel
theorem dX3_spotOf_36 : decode cX3_spotOf 36 = .ok (.iload 6, 2) := by decide +kernel
theorem dX3_spotOf_38 : decode cX3_spotOf 38 = .ok (.laload, 1) := by decide +kernel
theorem dX3_spotOf_39 : decode cX3_spotOf 39 = .ok (.lload_n 1, 1) := by decide +kernel
theorem dX3_spotOf_40 : decode cX3_spotOf 40 = .ok (.lcmp, 1) := by decide +kernel
theorem dX3_spotOf_41 : decode cX3_spotOf 41 = .ok (.ifCond .ge 11, 3) := by decide +kernel
theorem dX3_spotOf_44 : decode cX3_spotOf 44 = .ok (.iload 6, 2) := by decide +kernel
theorem dX3_spotOf_46 : decode cX3_spotOf 46 = .ok (.iconst 1, 1) := by decide +kernel
theorem dX3_spotOf_47 : decode cX3_spotOf 47 = .ok (.iadd, 1) := by decide +kernel
theorem dX3_spotOf_48 : decode cX3_spotOf 48 = .ok (.istore_n 3, 1) := by decide +kernel
theorem dX3_spotOf_49 : decode cX3_spotOf 49 = .ok (.goto 7, 3) := by decide +kernel
theorem dX3_spotOf_52 : decode cX3_spotOf 52 = .ok (.iload 6, 2) := by decide +kernel
theorem dX3_spotOf_54 : decode cX3_spotOf 54 = .ok (.istore 4, 2) := by decide +kernel
theorem dX3_spotOf_56 : decode cX3_spotOf 56 = .ok (.iinc 5 1, 3) := by decide +kernel
theorem dX3_spotOf_59 : decode cX3_spotOf 59 = .ok (.goto (-48), 3) := by decide +kernel
theorem dX3_spotOf_62 : decode cX3_spotOf 62 = .ok (.iload_n 3, 1) := by decide +kernel
theorem dX3_spotOf_63 : decode cX3_spotOf 63 = .ok (.ireturn, 1) := by decide +kernel
theorem dX3_partOf_0 : decode cX3_partOf 0 = .ok (.lload_n 0, 1) := by decide +kernel
theorem dX3_partOf_1 : decode cX3_partOf 1 = .ok (.iconst 2, 1) := by decide +kernel
theorem dX3_partOf_2 : decode cX3_partOf 2 = .ok (.iload_n 2, 1) := by decide +kernel
theorem dX3_partOf_3 : decode cX3_partOf 3 = .ok (.imul, 1) := by decide +kernel
theorem dX3_partOf_4 : decode cX3_partOf 4 = .ok (.lshr, 1) := by decide +kernel
theorem dX3_partOf_5 : decode cX3_partOf 5 = .ok (.l2i, 1) := by decide +kernel
theorem dX3_partOf_6 : decode cX3_partOf 6 = .ok (.iconst 3, 1) := by decide +kernel
theorem dX3_partOf_7 : decode cX3_partOf 7 = .ok (.iand, 1) := by decide +kernel
theorem dX3_partOf_8 : decode cX3_partOf 8 = .ok (.ireturn, 1) := by decide +kernel
theorem dX4_init_0 : decode cX4_init 0 = .ok (.aload_n 0, 1) := by decide +kernel
theorem dX4_init_1 : decode cX4_init 1 = .ok (.invokespecial 3, 3) := by decide +kernel
theorem dX4_init_4 : decode cX4_init 4 = .ok (.aload_n 0, 1) := by decide +kernel
theorem dX4_init_5 : decode cX4_init 5 = .ok (.bipush 24, 2) := by decide +kernel
theorem dX4_init_7 : decode cX4_init 7 = .ok (.bipush 6, 2) := by decide +kernel
theorem dX4_init_9 : decode cX4_init 9 = .ok (.multianewarray 9 2, 4) := by decide +kernel
theorem dX4_init_13 : decode cX4_init 13 = .ok (.putfield 11, 3) := by decide +kernel
theorem dX4_init_16 : decode cX4_init 16 = .ok (.aload_n 0, 1) := by decide +kernel
theorem dX4_init_17 : decode cX4_init 17 = .ok (.iconst 4, 1) := by decide +kernel
theorem dX4_init_18 : decode cX4_init 18 = .ok (.newarray .int, 2) := by decide +kernel
theorem dX4_init_20 : decode cX4_init 20 = .ok (.putfield 16, 3) := by decide +kernel
theorem dX4_init_23 : decode cX4_init 23 = .ok (.aload_n 0, 1) := by decide +kernel
theorem dX4_init_24 : decode cX4_init 24 = .ok (.bipush 6, 2) := by decide +kernel
theorem dX4_init_26 : decode cX4_init 26 = .ok (.newarray .int, 2) := by decide +kernel
theorem dX4_init_28 : decode cX4_init 28 = .ok (.putfield 20, 3) := by decide +kernel
theorem dX4_init_31 : decode cX4_init 31 = .ok (.aload_n 0, 1) := by decide +kernel
theorem dX4_init_32 : decode cX4_init 32 = .ok (.iconst 0, 1) := by decide +kernel
theorem dX4_init_33 : decode cX4_init 33 = .ok (.putfield 23, 3) := by decide +kernel
theorem dX4_init_36 : decode cX4_init 36 = .ok (.aload_n 0, 1) := by decide +kernel
theorem dX4_init_37 : decode cX4_init 37 = .ok (.iconst 0, 1) := by decide +kernel
theorem dX4_init_38 : decode cX4_init 38 = .ok (.putfield 27, 3) := by decide +kernel
theorem dX4_init_41 : decode cX4_init 41 = .ok (.return_, 1) := by decide +kernel
set_option maxRecDepth 20000 in
theorem ggX4_removeAll_X4_size : GoodIn wsX4_removeAll wsX4_size := goodIn_r _ [8, 1, 13, 14, 15, 16, 17] (by decide +kernel) (by decide +kernel)
set_option maxRecDepth 20000 in
theorem gX4_removeAll_X4_size : GoodIn wsX4_removeAll (wsV RX4 30 RX4 yX4_size wsX4_size) := goodIn_app (goodIn_of _ (by decide +kernel)) ggX4_removeAll_X4_size
set_option maxRecDepth 20000 in
theorem ggX4_removeAll_J7_fill_53178 : GoodIn wsX4_removeAll wsJ7_fill_53178 := goodIn_r _ [12] (by decide +kernel) (by decide +kernel)
set_option maxRecDepth 20000 in
theorem gX4_removeAll_J7_fill_53178 : GoodIn wsX4_removeAll (va_wsS RX4 34 yJ7_fill_53178 wsJ7_fill_53178) := goodIn_app (goodIn_of _ (by decide +kernel)) ggX4_removeAll_J7_fill_53178
theorem dX4_removeAll_0 : decode cX4_removeAll 0 = .ok (.aload_n 0, 1) := by decide +kernel
theorem dX4_removeAll_1 : decode cX4_removeAll 1 = .ok (.invokevirtual 30, 3) := by decide +kernel
theorem dX4_removeAll_4 : decode cX4_removeAll 4 = .ok (.istore_n 1, 1) := by decide +kernel
theorem dX4_removeAll_5 : decode cX4_removeAll 5 = .ok (.aload_n 0, 1) := by decide +kernel
theorem dX4_removeAll_6 : decode cX4_removeAll 6 = .ok (.getfield 16, 3) := by decide +kernel
theorem dX4_removeAll_9 : decode cX4_removeAll 9 = .ok (.iconst 0, 1) := by decide +kernel
theorem dX4_removeAll_10 : decode cX4_removeAll 10 = .ok (.invokestatic 34, 3) := by decide +kernel
theorem dX4_removeAll_13 : decode cX4_removeAll 13 = .ok (.aload_n 0, 1) := by decide +kernel
theorem dX4_removeAll_14 : decode cX4_removeAll 14 = .ok (.iconst 0, 1) := by decide +kernel
theorem dX4_removeAll_15 : decode cX4_removeAll 15 = .ok (.putfield 23, 3) := by decide +kernel
theorem dX4_removeAll_18 : decode cX4_removeAll 18 = .ok (.aload_n 0, 1) := by decide +kernel
theorem dX4_removeAll_19 : decode cX4_removeAll 19 = .ok (.iconst 0, 1) := by decide +kernel
theorem dX4_removeAll_20 : decode cX4_removeAll 20 = .ok (.putfield 27, 3) := by decide +kernel
theorem dX4_removeAll_23 : decode cX4_removeAll 23 = .ok (.iload_n 1, 1) := by decide +kernel
theorem dX4_removeAll_24 : decode cX4_removeAll 24 = .ok (.ireturn, 1) := by decide +kernel
theorem dX4_size_0 : decode cX4_size 0 = .ok (.iconst 0, 1) := by decide +kernel
theorem dX4_size_1 : decode cX4_size 1 = .ok (.istore_n 1, 1) := by decide +kernel
theorem dX4_size_2 : decode cX4_size 2 = .ok (.aload_n 0, 1) := by decide +kernel
theorem dX4_size_3 : decode cX4_size 3 = .ok (.getfield 16, 3) := by decide +kernel
theorem dX4_size_6 : decode cX4_size 6 = .ok (.astore_n 2, 1) := by decide +kernel
theorem dX4_size_7 : decode cX4_size 7 = .ok (.aload_n 2, 1) := by decide +kernel
theorem dX4_size_8 : decode cX4_size 8 = .ok (.arraylength, 1) := by decide +kernel
theorem dX4_size_9 : decode cX4_size 9 = .ok (.istore_n 3, 1) := by decide +kernel
theorem dX4_size_10 : decode cX4_size 10 = .ok (.iconst 0, 1) := by decide +kernel
theorem dX4_size_11 : decode cX4_size 11 = .ok (.istore 4, 2) := by decide +kernel
theorem dX4_size_13 : decode cX4_size 13 = .ok (.iload 4, 2) := by decide +kernel
theorem dX4_size_15 : decode cX4_size 15 = .ok (.iload_n 3, 1) := by decide +kernel
theorem dX4_size_16 : decode cX4_size 16 = .ok (.if_icmp .ge 20, 3) := by decide +kernel
theorem dX4_size_19 : decode cX4_size 19 = .ok (.aload_n 2, 1) := by decide +kernel
theorem dX4_size_20 : decode cX4_size 20 = .ok (.iload 4, 2) := by decide +kernel
theorem dX4_size_22 : decode cX4_size 22 = .ok (.iaload, 1) := by decide +kernel
theorem dX4_size_23 : decode cX4_size 23 = .ok (.istore 5, 2) := by decide +kernel
theorem dX4_size_25 : decode cX4_size 25 = .ok (.iload_n 1, 1) := by decide +kernel
theorem dX4_size_26 : decode cX4_size 26 = .ok (.iload 5, 2) := by decide +kernel
theorem dX4_size_28 : decode cX4_size 28 = .ok (.iadd, 1) := by decide +kernel
theorem dX4_size_29 : decode cX4_size 29 = .ok (.istore_n 1, 1) := by decide +kernel
theorem dX4_size_30 : decode cX4_size 30 = .ok (.iinc 4 1, 3) := by decide +kernel
theorem dX4_size_33 : decode cX4_size 33 = .ok (.goto (-20), 3) := by decide +kernel
theorem dX4_size_36 : decode cX4_size 36 = .ok (.iload_n 1, 1) := by decide +kernel
theorem dX4_size_37 : decode cX4_size 37 = .ok (.ireturn, 1) := by decide +kernel
theorem dX4_accesses_0 : decode cX4_accesses 0 = .ok (.aload_n 0, 1) := by decide +kernel
theorem dX4_accesses_1 : decode cX4_accesses 1 = .ok (.getfield 23, 3) := by decide +kernel
theorem dX4_accesses_4 : decode cX4_accesses 4 = .ok (.ireturn, 1) := by decide +kernel
theorem dX4_readers_0 : decode cX4_readers 0 = .ok (.aload_n 0, 1) := by decide +kernel
theorem dX4_readers_1 : decode cX4_readers 1 = .ok (.getfield 27, 3) := by decide +kernel
theorem dX4_readers_4 : decode cX4_readers 4 = .ok (.ireturn, 1) := by decide +kernel
theorem dX4_length_0 : decode cX4_length 0 = .ok (.aload_n 0, 1) := by decide +kernel
theorem dX4_length_1 : decode cX4_length 1 = .ok (.getfield 16, 3) := by decide +kernel
theorem dX4_length_4 : decode cX4_length 4 = .ok (.iload_n 1, 1) := by decide +kernel
theorem dX4_length_5 : decode cX4_length 5 = .ok (.iaload, 1) := by decide +kernel
theorem dX4_length_6 : decode cX4_length 6 = .ok (.ireturn, 1) := by decide +kernel
theorem dX4_has_0 : decode cX4_has 0 = .ok (.iload_n 1, 1) := by decide +kernel
theorem dX4_has_1 : decode cX4_has 1 = .ok (.ifCond .lt 26, 3) := by decide +kernel
theorem dX4_has_4 : decode cX4_has 4 = .ok (.iload_n 1, 1) := by decide +kernel
theorem dX4_has_5 : decode cX4_has 5 = .ok (.iconst 4, 1) := by decide +kernel
theorem dX4_has_6 : decode cX4_has 6 = .ok (.if_icmp .ge 21, 3) := by decide +kernel
theorem dX4_has_9 : decode cX4_has 9 = .ok (.iload_n 2, 1) := by decide +kernel
theorem dX4_has_10 : decode cX4_has 10 = .ok (.ifCond .lt 17, 3) := by decide +kernel
theorem dX4_has_13 : decode cX4_has 13 = .ok (.iload_n 2, 1) := by decide +kernel
theorem dX4_has_14 : decode cX4_has 14 = .ok (.aload_n 0, 1) := by decide +kernel
theorem dX4_has_15 : decode cX4_has 15 = .ok (.getfield 16, 3) := by decide +kernel
theorem dX4_has_18 : decode cX4_has 18 = .ok (.iload_n 1, 1) := by decide +kernel
theorem dX4_has_19 : decode cX4_has 19 = .ok (.iaload, 1) := by decide +kernel
theorem dX4_has_20 : decode cX4_has 20 = .ok (.if_icmp .ge 7, 3) := by decide +kernel
theorem dX4_has_23 : decode cX4_has 23 = .ok (.iconst 1, 1) := by decide +kernel
theorem dX4_has_24 : decode cX4_has 24 = .ok (.goto 4, 3) := by decide +kernel
theorem dX4_has_27 : decode cX4_has 27 = .ok (.iconst 0, 1) := by decide +kernel
theorem dX4_has_28 : decode cX4_has 28 = .ok (.ireturn, 1) := by decide +kernel
theorem dX4_row_0 : decode cX4_row 0 = .ok (.aload_n 0, 1) := by decide +kernel
theorem dX4_row_1 : decode cX4_row 1 = .ok (.getfield 11, 3) := by decide +kernel
theorem dX4_row_4 : decode cX4_row 4 = .ok (.iload_n 1, 1) := by decide +kernel
theorem dX4_row_5 : decode cX4_row 5 = .ok (.bipush 6, 2) := by decide +kernel
theorem dX4_row_7 : decode cX4_row 7 = .ok (.imul, 1) := by decide +kernel
theorem dX4_row_8 : decode cX4_row 8 = .ok (.iload_n 2, 1) := by decide +kernel
theorem dX4_row_9 : decode cX4_row 9 = .ok (.iadd, 1) := by decide +kernel
theorem dX4_row_10 : decode cX4_row 10 = .ok (.aaload, 1) := by decide +kernel
theorem dX4_row_11 : decode cX4_row 11 = .ok (.areturn, 1) := by decide +kernel
theorem dX4_propose_0 : decode cX4_propose 0 = .ok (.aload_n 0, 1) := by decide +kernel
theorem dX4_propose_1 : decode cX4_propose 1 = .ok (.getfield 20, 3) := by decide +kernel
theorem dX4_propose_4 : decode cX4_propose 4 = .ok (.iconst 0, 1) := by decide +kernel
theorem dX4_propose_5 : decode cX4_propose 5 = .ok (.iload_n 1, 1) := by decide +kernel
theorem dX4_propose_6 : decode cX4_propose 6 = .ok (.iastore, 1) := by decide +kernel
theorem dX4_propose_7 : decode cX4_propose 7 = .ok (.aload_n 0, 1) := by decide +kernel
theorem dX4_propose_8 : decode cX4_propose 8 = .ok (.getfield 20, 3) := by decide +kernel
theorem dX4_propose_11 : decode cX4_propose 11 = .ok (.iconst 1, 1) := by decide +kernel
theorem dX4_propose_12 : decode cX4_propose 12 = .ok (.iload_n 2, 1) := by decide +kernel
theorem dX4_propose_13 : decode cX4_propose 13 = .ok (.iastore, 1) := by decide +kernel
theorem dX4_propose_14 : decode cX4_propose 14 = .ok (.aload_n 0, 1) := by decide +kernel
theorem dX4_propose_15 : decode cX4_propose 15 = .ok (.getfield 20, 3) := by decide +kernel
theorem dX4_propose_18 : decode cX4_propose 18 = .ok (.iconst 2, 1) := by decide +kernel
theorem dX4_propose_19 : decode cX4_propose 19 = .ok (.iload_n 3, 1) := by decide +kernel
theorem dX4_propose_20 : decode cX4_propose 20 = .ok (.iastore, 1) := by decide +kernel
theorem dX4_propose_21 : decode cX4_propose 21 = .ok (.aload_n 0, 1) := by decide +kernel
theorem dX4_propose_22 : decode cX4_propose 22 = .ok (.getfield 20, 3) := by decide +kernel
theorem dX4_propose_25 : decode cX4_propose 25 = .ok (.iconst 3, 1) := by decide +kernel
theorem dX4_propose_26 : decode cX4_propose 26 = .ok (.iload 4, 2) := by decide +kernel
theorem dX4_propose_28 : decode cX4_propose 28 = .ok (.iastore, 1) := by decide +kernel
theorem dX4_propose_29 : decode cX4_propose 29 = .ok (.aload_n 0, 1) := by decide +kernel
theorem dX4_propose_30 : decode cX4_propose 30 = .ok (.getfield 20, 3) := by decide +kernel
theorem dX4_propose_33 : decode cX4_propose 33 = .ok (.iconst 4, 1) := by decide +kernel
theorem dX4_propose_34 : decode cX4_propose 34 = .ok (.iload 5, 2) := by decide +kernel
theorem dX4_propose_36 : decode cX4_propose 36 = .ok (.iastore, 1) := by decide +kernel
theorem dX4_propose_37 : decode cX4_propose 37 = .ok (.aload_n 0, 1) := by decide +kernel
theorem dX4_propose_38 : decode cX4_propose 38 = .ok (.getfield 20, 3) := by decide +kernel
theorem dX4_propose_41 : decode cX4_propose 41 = .ok (.iconst 5, 1) := by decide +kernel
theorem dX4_propose_42 : decode cX4_propose 42 = .ok (.iload 6, 2) := by decide +kernel
theorem dX4_propose_44 : decode cX4_propose 44 = .ok (.iastore, 1) := by decide +kernel
theorem dX4_propose_45 : decode cX4_propose 45 = .ok (.return_, 1) := by decide +kernel
set_option maxRecDepth 20000 in
theorem ggX4_append_X4_isDraftGood : GoodIn wsX4_append wsX4_isDraftGood := goodIn_r _ [9, 1, 10, 11, 8, 12, 13, 14, 15, 16, 17, 18, 19, 20, 21, 22, 23, 24, 25, 26, 27, 28, 29, 30, 31, 32, 33, 34, 35, 36, 37, 38, 39, 40, 41, 42, 43, 44, 45, 46, 47, 48, 49, 50, 51, 52, 53, 54, 55, 56, 57, 58, 59, 60, 61, 62, 63, 64, 83, 84, 85, 86, 87] (by decide +kernel) (by decide +kernel)
set_option maxRecDepth 20000 in
theorem gX4_append_X4_isDraftGood : GoodIn wsX4_append (wsV RX4 40 RX4 yX4_isDraftGood wsX4_isDraftGood) := goodIn_app (goodIn_of _ (by decide +kernel)) ggX4_append_X4_isDraftGood
set_option maxRecDepth 20000 in
theorem ggX4_append_X6_isAccess : GoodIn wsX4_append wsX6_isAccess := goodIn_r _ [67, 68, 69, 66, 70, 71, 72, 73] (by decide +kernel) (by decide +kernel)
set_option maxRecDepth 20000 in
theorem gX4_append_X6_isAccess_n44 : GoodIn wsX4_append (wsX6_isAccess) := ggX4_append_X6_isAccess
set_option maxRecDepth 20000 in
theorem ggX4_append_X6_isReader : GoodIn wsX4_append wsX6_isReader := goodIn_r _ [70] (by decide +kernel) (by decide +kernel)
set_option maxRecDepth 20000 in
theorem gX4_append_X6_isReader_n48 : GoodIn wsX4_append (wsX6_isReader) := ggX4_append_X6_isReader
set_option maxRecDepth 20000 in
theorem ggX4_append_X4_row : GoodIn wsX4_append wsX4_row := goodIn_r _ [77, 78, 83, 84, 85, 86, 87] (by decide +kernel) (by decide +kernel)
set_option maxRecDepth 20000 in
theorem gX4_append_X4_row : GoodIn wsX4_append (wsV RX4 51 RX4 yX4_row wsX4_row) := goodIn_app (goodIn_of _ (by decide +kernel)) ggX4_append_X4_row
set_option maxRecDepth 20000 in
theorem ggX4_append_X4_copyDraft : GoodIn wsX4_append wsX4_copyDraft := goodIn_r _ [82, 1, 10, 11, 8, 12, 13, 14, 15, 16, 17, 18, 19, 20, 21, 22, 23, 24, 83, 84, 85, 86, 87] (by decide +kernel) (by decide +kernel)
set_option maxRecDepth 20000 in
theorem gX4_append_X4_copyDraft : GoodIn wsX4_append (wsV RX4 55 RX4 yX4_copyDraft wsX4_copyDraft) := goodIn_app (goodIn_of _ (by decide +kernel)) ggX4_append_X4_copyDraft
theorem dX4_append_0 : decode cX4_append 0 = .ok (.iload_n 1, 1) := by decide +kernel
theorem dX4_append_1 : decode cX4_append 1 = .ok (.ifCond .lt 15, 3) := by decide +kernel
theorem dX4_append_4 : decode cX4_append 4 = .ok (.iload_n 1, 1) := by decide +kernel
theorem dX4_append_5 : decode cX4_append 5 = .ok (.iconst 4, 1) := by decide +kernel
theorem dX4_append_6 : decode cX4_append 6 = .ok (.if_icmp .ge 10, 3) := by decide +kernel
theorem dX4_append_9 : decode cX4_append 9 = .ok (.aload_n 0, 1) := by decide +kernel
theorem dX4_append_10 : decode cX4_append 10 = .ok (.invokevirtual 40, 3) := by decide +kernel
theorem dX4_append_13 : decode cX4_append 13 = .ok (.ifCond .ne 6, 3) := by decide +kernel
theorem dX4_append_16 : decode cX4_append 16 = .ok (.bipush (-2), 2) := by decide +kernel
theorem dX4_append_18 : decode cX4_append 18 = .ok (.ireturn, 1) := by decide +kernel
theorem dX4_append_19 : decode cX4_append 19 = .ok (.aload_n 0, 1) := by decide +kernel
theorem dX4_append_20 : decode cX4_append 20 = .ok (.getfield 20, 3) := by decide +kernel
theorem dX4_append_23 : decode cX4_append 23 = .ok (.iconst 0, 1) := by decide +kernel
theorem dX4_append_24 : decode cX4_append 24 = .ok (.iaload, 1) := by decide +kernel
theorem dX4_append_25 : decode cX4_append 25 = .ok (.istore_n 2, 1) := by decide +kernel
theorem dX4_append_26 : decode cX4_append 26 = .ok (.iload_n 2, 1) := by decide +kernel
theorem dX4_append_27 : decode cX4_append 27 = .ok (.invokestatic 44, 3) := by decide +kernel
theorem dX4_append_30 : decode cX4_append 30 = .ok (.ifCond .eq 16, 3) := by decide +kernel
theorem dX4_append_33 : decode cX4_append 33 = .ok (.aload_n 0, 1) := by decide +kernel
theorem dX4_append_34 : decode cX4_append 34 = .ok (.getfield 23, 3) := by decide +kernel
theorem dX4_append_37 : decode cX4_append 37 = .ok (.bipush 6, 2) := by decide +kernel
theorem dX4_append_39 : decode cX4_append 39 = .ok (.if_icmp .lt 7, 3) := by decide +kernel
theorem dX4_append_42 : decode cX4_append 42 = .ok (.iconst 1, 1) := by decide +kernel
theorem dX4_append_43 : decode cX4_append 43 = .ok (.goto 4, 3) := by decide +kernel
theorem dX4_append_46 : decode cX4_append 46 = .ok (.iconst 0, 1) := by decide +kernel
theorem dX4_append_47 : decode cX4_append 47 = .ok (.istore_n 3, 1) := by decide +kernel
theorem dX4_append_48 : decode cX4_append 48 = .ok (.iload_n 2, 1) := by decide +kernel
theorem dX4_append_49 : decode cX4_append 49 = .ok (.invokestatic 48, 3) := by decide +kernel
theorem dX4_append_52 : decode cX4_append 52 = .ok (.ifCond .eq 15, 3) := by decide +kernel
theorem dX4_append_55 : decode cX4_append 55 = .ok (.aload_n 0, 1) := by decide +kernel
