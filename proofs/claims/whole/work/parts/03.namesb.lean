set_option maxRecDepth 20000 in
theorem ggX0_init_X3_init : GoodIn wsX0_init wsX3_init := goodIn_r _ [15, 16, 2, 3, 12, 17, 18, 29, 30, 31, 32] (by decide +kernel) (by decide +kernel)
set_option maxRecDepth 20000 in
theorem gX0_init_X3_init_n11 : GoodIn wsX0_init (wsX3_init) := ggX0_init_X3_init
set_option maxRecDepth 20000 in
theorem ggX0_init_X2_init : GoodIn wsX0_init wsX2_init := goodIn_r _ [20, 21, 2, 3, 12, 22, 23, 24, 25, 26, 27, 28, 41, 42, 43, 44, 45, 46, 47] (by decide +kernel) (by decide +kernel)
set_option maxRecDepth 20000 in
theorem gX0_init_X2_init_n20 : GoodIn wsX0_init (wsX2_init) := ggX0_init_X2_init
theorem dX0_init_0 : decode cX0_init 0 = .ok (.aload_n 0, 1) := by decide +kernel
theorem dX0_init_1 : decode cX0_init 1 = .ok (.invokespecial 3, 3) := by decide +kernel
theorem dX0_init_4 : decode cX0_init 4 = .ok (.aload_n 0, 1) := by decide +kernel
theorem dX0_init_5 : decode cX0_init 5 = .ok (.new 9, 3) := by decide +kernel
theorem dX0_init_8 : decode cX0_init 8 = .ok (.dup, 1) := by decide +kernel
theorem dX0_init_9 : decode cX0_init 9 = .ok (.invokespecial 11, 3) := by decide +kernel
theorem dX0_init_12 : decode cX0_init 12 = .ok (.putfield 12, 3) := by decide +kernel
theorem dX0_init_15 : decode cX0_init 15 = .ok (.aload_n 0, 1) := by decide +kernel
theorem dX0_init_16 : decode cX0_init 16 = .ok (.new 18, 3) := by decide +kernel
theorem dX0_init_19 : decode cX0_init 19 = .ok (.dup, 1) := by decide +kernel
theorem dX0_init_20 : decode cX0_init 20 = .ok (.invokespecial 20, 3) := by decide +kernel
theorem dX0_init_23 : decode cX0_init 23 = .ok (.putfield 21, 3) := by decide +kernel
theorem dX0_init_26 : decode cX0_init 26 = .ok (.aload_n 0, 1) := by decide +kernel
theorem dX0_init_27 : decode cX0_init 27 = .ok (.bipush 10, 2) := by decide +kernel
theorem dX0_init_29 : decode cX0_init 29 = .ok (.newarray .int, 2) := by decide +kernel
theorem dX0_init_31 : decode cX0_init 31 = .ok (.putfield 25, 3) := by decide +kernel
theorem dX0_init_34 : decode cX0_init 34 = .ok (.return_, 1) := by decide +kernel
set_option maxRecDepth 20000 in
theorem ggX0_find_X0_search : GoodIn wsX0_find wsX0_search := goodIn_r _ [7, 8, 9, 10, 11, 12, 13, 14, 15, 16, 17, 18, 19, 20, 21, 22, 23, 24, 25, 26, 27, 28, 29, 30, 31, 32, 33, 34, 35, 36, 37, 38, 39, 40, 41, 42, 43, 44, 45, 46, 47, 48, 49, 50, 51, 52, 53, 54, 55, 56, 57, 58, 59, 60, 61, 62, 63, 64, 65, 66, 67, 68, 69, 70, 71, 72, 6, 73, 74, 75, 76, 77, 78, 79, 80, 81, 82, 83, 84, 85, 86, 87, 88, 89, 90, 91, 92, 93, 94, 95, 106, 107, 108, 109, 96, 97, 98, 99, 100, 101, 102, 103, 104, 105, 110, 111, 112, 113, 114, 115, 116] (by decide +kernel) (by decide +kernel)
set_option maxRecDepth 20000 in
theorem gX0_find_X0_search : GoodIn wsX0_find (wsV RX0 41 RX0 yX0_search wsX0_search) := goodIn_app (goodIn_of _ (by decide +kernel)) ggX0_find_X0_search
theorem dX0_find_0 : decode cX0_find 0 = .ok (.aload_n 0, 1) := by decide +kernel
theorem dX0_find_1 : decode cX0_find 1 = .ok (.getfield 29, 3) := by decide +kernel
theorem dX0_find_4 : decode cX0_find 4 = .ok (.iload_n 2, 1) := by decide +kernel
theorem dX0_find_5 : decode cX0_find 5 = .ok (.if_icmp .ne 15, 3) := by decide +kernel
theorem dX0_find_8 : decode cX0_find 8 = .ok (.aload_n 0, 1) := by decide +kernel
theorem dX0_find_9 : decode cX0_find 9 = .ok (.getfield 33, 3) := by decide +kernel
theorem dX0_find_12 : decode cX0_find 12 = .ok (.aload_n 1, 1) := by decide +kernel
theorem dX0_find_13 : decode cX0_find 13 = .ok (.getfield 36, 3) := by decide +kernel
theorem dX0_find_16 : decode cX0_find 16 = .ok (.if_icmp .ne 4, 3) := by decide +kernel
theorem dX0_find_19 : decode cX0_find 19 = .ok (.return_, 1) := by decide +kernel
theorem dX0_find_20 : decode cX0_find 20 = .ok (.aload_n 0, 1) := by decide +kernel
theorem dX0_find_21 : decode cX0_find 21 = .ok (.aload_n 1, 1) := by decide +kernel
theorem dX0_find_22 : decode cX0_find 22 = .ok (.iload_n 2, 1) := by decide +kernel
theorem dX0_find_23 : decode cX0_find 23 = .ok (.invokevirtual 41, 3) := by decide +kernel
theorem dX0_find_26 : decode cX0_find 26 = .ok (.aload_n 0, 1) := by decide +kernel
theorem dX0_find_27 : decode cX0_find 27 = .ok (.iload_n 2, 1) := by decide +kernel
theorem dX0_find_28 : decode cX0_find 28 = .ok (.putfield 29, 3) := by decide +kernel
theorem dX0_find_31 : decode cX0_find 31 = .ok (.aload_n 0, 1) := by decide +kernel
theorem dX0_find_32 : decode cX0_find 32 = .ok (.aload_n 1, 1) := by decide +kernel
theorem dX0_find_33 : decode cX0_find 33 = .ok (.getfield 36, 3) := by decide +kernel
theorem dX0_find_36 : decode cX0_find 36 = .ok (.putfield 33, 3) := by decide +kernel
theorem dX0_find_39 : decode cX0_find 39 = .ok (.return_, 1) := by decide +kernel
set_option maxRecDepth 20000 in
theorem ggX0_search_X3_begin : GoodIn wsX0_search wsX3_begin := goodIn_r _ [10, 11, 12, 13, 14, 15, 16, 17, 18, 19, 20, 21, 22, 23, 24, 94, 95, 96, 97, 98, 99, 100, 101, 102, 103, 90, 91, 92, 93] (by decide +kernel) (by decide +kernel)
set_option maxRecDepth 20000 in
theorem gX0_search_X3_begin : GoodIn wsX0_search (wsV RX0 51 RX3 yX3_begin wsX3_begin) := goodIn_app (goodIn_of _ (by decide +kernel)) ggX0_search_X3_begin
set_option maxRecDepth 20000 in
theorem ggX0_search_X2_countSpilledUpTo : GoodIn wsX0_search wsX2_countSpilledUpTo := goodIn_r _ [29, 30, 31, 32, 33, 28, 34, 35, 36, 37, 38, 39, 40, 41, 42, 16, 43, 44, 45, 46, 47, 48, 49, 50, 51, 52, 53, 54, 55, 56, 57, 58, 59, 60, 61, 62, 94, 95, 96, 97, 98, 99, 100, 101, 102, 103, 104, 105, 106, 107, 108, 109, 110] (by decide +kernel) (by decide +kernel)
set_option maxRecDepth 20000 in
theorem gX0_search_X2_countSpilledUpTo : GoodIn wsX0_search (wsV RX0 59 RX2 yX2_countSpilledUpTo wsX2_countSpilledUpTo) := goodIn_app (goodIn_of _ (by decide +kernel)) ggX0_search_X2_countSpilledUpTo
set_option maxRecDepth 20000 in
theorem ggX0_search_X0_compare : GoodIn wsX0_search wsX0_compare := goodIn_r _ [67, 1, 2, 3, 68, 69, 60, 61, 62, 82, 83, 84, 85, 86, 87, 88, 89, 90, 91, 92, 93] (by decide +kernel) (by decide +kernel)
set_option maxRecDepth 20000 in
theorem gX0_search_X0_compare : GoodIn wsX0_search (wsV RX0 63 RX0 yX0_compare wsX0_compare) := goodIn_app (goodIn_of _ (by decide +kernel)) ggX0_search_X0_compare
set_option maxRecDepth 20000 in
theorem ggX0_search_X3_advance : GoodIn wsX0_search wsX3_advance := goodIn_r _ [73, 12, 74, 75, 76, 77, 14, 13, 11, 78, 79, 80, 9, 81, 90, 91, 92, 93] (by decide +kernel) (by decide +kernel)
set_option maxRecDepth 20000 in
theorem gX0_search_X3_advance : GoodIn wsX0_search (wsV RX0 67 RX3 yX3_advance wsX3_advance) := goodIn_app (goodIn_of _ (by decide +kernel)) ggX0_search_X3_advance
theorem dX0_search_0 : decode cX0_search 0 = .ok (.aload_n 0, 1) := by decide +kernel
theorem dX0_search_1 : decode cX0_search 1 = .ok (.bipush 25, 2) := by decide +kernel
theorem dX0_search_3 : decode cX0_search 3 = .ok (.putfield 45, 3) := by decide +kernel
theorem dX0_search_6 : decode cX0_search 6 = .ok (.aload_n 0, 1) := by decide +kernel
theorem dX0_search_7 : decode cX0_search 7 = .ok (.iconst 0, 1) := by decide +kernel
theorem dX0_search_8 : decode cX0_search 8 = .ok (.putfield 48, 3) := by decide +kernel
theorem dX0_search_11 : decode cX0_search 11 = .ok (.aload_n 0, 1) := by decide +kernel
theorem dX0_search_12 : decode cX0_search 12 = .ok (.getfield 12, 3) := by decide +kernel
theorem dX0_search_15 : decode cX0_search 15 = .ok (.aload_n 1, 1) := by decide +kernel
theorem dX0_search_16 : decode cX0_search 16 = .ok (.iload_n 2, 1) := by decide +kernel
theorem dX0_search_17 : decode cX0_search 17 = .ok (.invokevirtual 51, 3) := by decide +kernel
theorem dX0_search_20 : decode cX0_search 20 = .ok (.istore_n 3, 1) := by decide +kernel
theorem dX0_search_21 : decode cX0_search 21 = .ok (.aload_n 0, 1) := by decide +kernel
theorem dX0_search_22 : decode cX0_search 22 = .ok (.iconst 0, 1) := by decide +kernel
theorem dX0_search_23 : decode cX0_search 23 = .ok (.putfield 55, 3) := by decide +kernel
theorem dX0_search_26 : decode cX0_search 26 = .ok (.aload_n 0, 1) := by decide +kernel
theorem dX0_search_27 : decode cX0_search 27 = .ok (.getfield 55, 3) := by decide +kernel
theorem dX0_search_30 : decode cX0_search 30 = .ok (.sipush 12870, 3) := by decide +kernel
theorem dX0_search_33 : decode cX0_search 33 = .ok (.if_icmp .ge 54, 3) := by decide +kernel
theorem dX0_search_36 : decode cX0_search 36 = .ok (.iload_n 3, 1) := by decide +kernel
theorem dX0_search_37 : decode cX0_search 37 = .ok (.ifCond .eq 50, 3) := by decide +kernel
theorem dX0_search_40 : decode cX0_search 40 = .ok (.aload_n 0, 1) := by decide +kernel
theorem dX0_search_41 : decode cX0_search 41 = .ok (.aload_n 0, 1) := by decide +kernel
theorem dX0_search_42 : decode cX0_search 42 = .ok (.getfield 21, 3) := by decide +kernel
theorem dX0_search_45 : decode cX0_search 45 = .ok (.aload_n 1, 1) := by decide +kernel
theorem dX0_search_46 : decode cX0_search 46 = .ok (.aload_n 0, 1) := by decide +kernel
theorem dX0_search_47 : decode cX0_search 47 = .ok (.getfield 12, 3) := by decide +kernel
theorem dX0_search_50 : decode cX0_search 50 = .ok (.getfield 58, 3) := by decide +kernel
theorem dX0_search_53 : decode cX0_search 53 = .ok (.iload_n 2, 1) := by decide +kernel
theorem dX0_search_54 : decode cX0_search 54 = .ok (.aload_n 0, 1) := by decide +kernel
theorem dX0_search_55 : decode cX0_search 55 = .ok (.getfield 45, 3) := by decide +kernel
theorem dX0_search_58 : decode cX0_search 58 = .ok (.invokevirtual 59, 3) := by decide +kernel
theorem dX0_search_61 : decode cX0_search 61 = .ok (.invokevirtual 63, 3) := by decide +kernel
theorem dX0_search_64 : decode cX0_search 64 = .ok (.aload_n 0, 1) := by decide +kernel
theorem dX0_search_65 : decode cX0_search 65 = .ok (.getfield 12, 3) := by decide +kernel
theorem dX0_search_68 : decode cX0_search 68 = .ok (.bipush 10, 2) := by decide +kernel
theorem dX0_search_70 : decode cX0_search 70 = .ok (.invokevirtual 67, 3) := by decide +kernel
theorem dX0_search_73 : decode cX0_search 73 = .ok (.istore_n 3, 1) := by decide +kernel
theorem dX0_search_74 : decode cX0_search 74 = .ok (.aload_n 0, 1) := by decide +kernel
theorem dX0_search_75 : decode cX0_search 75 = .ok (.dup, 1) := by decide +kernel
theorem dX0_search_76 : decode cX0_search 76 = .ok (.getfield 55, 3) := by decide +kernel
theorem dX0_search_79 : decode cX0_search 79 = .ok (.iconst 1, 1) := by decide +kernel
theorem dX0_search_80 : decode cX0_search 80 = .ok (.iadd, 1) := by decide +kernel
theorem dX0_search_81 : decode cX0_search 81 = .ok (.putfield 55, 3) := by decide +kernel
theorem dX0_search_84 : decode cX0_search 84 = .ok (.goto (-58), 3) := by decide +kernel
theorem dX0_search_87 : decode cX0_search 87 = .ok (.return_, 1) := by decide +kernel
theorem dX0_compare_0 : decode cX0_compare 0 = .ok (.iload_n 1, 1) := by decide +kernel
theorem dX0_compare_1 : decode cX0_compare 1 = .ok (.aload_n 0, 1) := by decide +kernel
theorem dX0_compare_2 : decode cX0_compare 2 = .ok (.getfield 45, 3) := by decide +kernel
theorem dX0_compare_5 : decode cX0_compare 5 = .ok (.if_icmp .ge 31, 3) := by decide +kernel
theorem dX0_compare_8 : decode cX0_compare 8 = .ok (.aload_n 0, 1) := by decide +kernel
theorem dX0_compare_9 : decode cX0_compare 9 = .ok (.iload_n 1, 1) := by decide +kernel
theorem dX0_compare_10 : decode cX0_compare 10 = .ok (.putfield 45, 3) := by decide +kernel
theorem dX0_compare_13 : decode cX0_compare 13 = .ok (.aload_n 0, 1) := by decide +kernel
theorem dX0_compare_14 : decode cX0_compare 14 = .ok (.iconst 0, 1) := by decide +kernel
theorem dX0_compare_15 : decode cX0_compare 15 = .ok (.putfield 48, 3) := by decide +kernel
theorem dX0_compare_18 : decode cX0_compare 18 = .ok (.aload_n 0, 1) := by decide +kernel
theorem dX0_compare_19 : decode cX0_compare 19 = .ok (.getfield 12, 3) := by decide +kernel
theorem dX0_compare_22 : decode cX0_compare 22 = .ok (.getfield 58, 3) := by decide +kernel
theorem dX0_compare_25 : decode cX0_compare 25 = .ok (.iconst 0, 1) := by decide +kernel
theorem dX0_compare_26 : decode cX0_compare 26 = .ok (.aload_n 0, 1) := by decide +kernel
theorem dX0_compare_27 : decode cX0_compare 27 = .ok (.getfield 25, 3) := by decide +kernel
theorem dX0_compare_30 : decode cX0_compare 30 = .ok (.iconst 0, 1) := by decide +kernel
theorem dX0_compare_31 : decode cX0_compare 31 = .ok (.bipush 10, 2) := by decide +kernel
theorem dX0_compare_33 : decode cX0_compare 33 = .ok (.invokestatic 71, 3) := by decide +kernel
theorem dX0_compare_36 : decode cX0_compare 36 = .ok (.iload_n 1, 1) := by decide +kernel
theorem dX0_compare_37 : decode cX0_compare 37 = .ok (.aload_n 0, 1) := by decide +kernel
theorem dX0_compare_38 : decode cX0_compare 38 = .ok (.getfield 45, 3) := by decide +kernel
theorem dX0_compare_41 : decode cX0_compare 41 = .ok (.if_icmp .ne 13, 3) := by decide +kernel
theorem dX0_compare_44 : decode cX0_compare 44 = .ok (.aload_n 0, 1) := by decide +kernel
theorem dX0_compare_45 : decode cX0_compare 45 = .ok (.dup, 1) := by decide +kernel
theorem dX0_compare_46 : decode cX0_compare 46 = .ok (.getfield 48, 3) := by decide +kernel
theorem dX0_compare_49 : decode cX0_compare 49 = .ok (.iconst 1, 1) := by decide +kernel
theorem dX0_compare_50 : decode cX0_compare 50 = .ok (.iadd, 1) := by decide +kernel
theorem dX0_compare_51 : decode cX0_compare 51 = .ok (.putfield 48, 3) := by decide +kernel
theorem dX0_compare_54 : decode cX0_compare 54 = .ok (.return_, 1) := by decide +kernel
set_option maxRecDepth 20000 in
theorem ggX1_init_J7_fill_53178 : GoodIn wsX1_init wsJ7_fill_53178 := goodIn_r _ [16] (by decide +kernel) (by decide +kernel)
set_option maxRecDepth 20000 in
theorem gX1_init_J7_fill_53178 : GoodIn wsX1_init (va_wsS RX1 37 yJ7_fill_53178 wsJ7_fill_53178) := goodIn_app (goodIn_of _ (by decide +kernel)) ggX1_init_J7_fill_53178
theorem dX1_init_0 : decode cX1_init 0 = .ok (.aload_n 0, 1) := by decide +kernel
theorem dX1_init_1 : decode cX1_init 1 = .ok (.invokespecial 3, 3) := by decide +kernel
theorem dX1_init_4 : decode cX1_init 4 = .ok (.aload_n 0, 1) := by decide +kernel
theorem dX1_init_5 : decode cX1_init 5 = .ok (.bipush 24, 2) := by decide +kernel
theorem dX1_init_7 : decode cX1_init 7 = .ok (.newarray .int, 2) := by decide +kernel
theorem dX1_init_9 : decode cX1_init 9 = .ok (.putfield 9, 3) := by decide +kernel
theorem dX1_init_12 : decode cX1_init 12 = .ok (.aload_n 0, 1) := by decide +kernel
theorem dX1_init_13 : decode cX1_init 13 = .ok (.bipush 24, 2) := by decide +kernel
theorem dX1_init_15 : decode cX1_init 15 = .ok (.newarray .int, 2) := by decide +kernel
theorem dX1_init_17 : decode cX1_init 17 = .ok (.putfield 15, 3) := by decide +kernel
theorem dX1_init_20 : decode cX1_init 20 = .ok (.aload_n 0, 1) := by decide +kernel
theorem dX1_init_21 : decode cX1_init 21 = .ok (.bipush 24, 2) := by decide +kernel
theorem dX1_init_23 : decode cX1_init 23 = .ok (.newarray .int, 2) := by decide +kernel
theorem dX1_init_25 : decode cX1_init 25 = .ok (.putfield 18, 3) := by decide +kernel
theorem dX1_init_28 : decode cX1_init 28 = .ok (.aload_n 0, 1) := by decide +kernel
theorem dX1_init_29 : decode cX1_init 29 = .ok (.bipush 10, 2) := by decide +kernel
theorem dX1_init_31 : decode cX1_init 31 = .ok (.newarray .int, 2) := by decide +kernel
theorem dX1_init_33 : decode cX1_init 33 = .ok (.putfield 21, 3) := by decide +kernel
theorem dX1_init_36 : decode cX1_init 36 = .ok (.aload_n 0, 1) := by decide +kernel
theorem dX1_init_37 : decode cX1_init 37 = .ok (.bipush 10, 2) := by decide +kernel
theorem dX1_init_39 : decode cX1_init 39 = .ok (.newarray .int, 2) := by decide +kernel
theorem dX1_init_41 : decode cX1_init 41 = .ok (.putfield 24, 3) := by decide +kernel
theorem dX1_init_44 : decode cX1_init 44 = .ok (.aload_n 0, 1) := by decide +kernel
theorem dX1_init_45 : decode cX1_init 45 = .ok (.iconst 3, 1) := by decide +kernel
theorem dX1_init_46 : decode cX1_init 46 = .ok (.putfield 27, 3) := by decide +kernel
theorem dX1_init_49 : decode cX1_init 49 = .ok (.aload_n 0, 1) := by decide +kernel
theorem dX1_init_50 : decode cX1_init 50 = .ok (.iconst 4, 1) := by decide +kernel
theorem dX1_init_51 : decode cX1_init 51 = .ok (.newarray .int, 2) := by decide +kernel
theorem dX1_init_53 : decode cX1_init 53 = .ok (.putfield 31, 3) := by decide +kernel
theorem dX1_init_56 : decode cX1_init 56 = .ok (.aload_n 0, 1) := by decide +kernel
theorem dX1_init_57 : decode cX1_init 57 = .ok (.bipush 10, 2) := by decide +kernel
theorem dX1_init_59 : decode cX1_init 59 = .ok (.newarray .int, 2) := by decide +kernel
theorem dX1_init_61 : decode cX1_init 61 = .ok (.putfield 34, 3) := by decide +kernel
theorem dX1_init_64 : decode cX1_init 64 = .ok (.iconst 0, 1) := by decide +kernel
theorem dX1_init_65 : decode cX1_init 65 = .ok (.istore_n 1, 1) := by decide +kernel
theorem dX1_init_66 : decode cX1_init 66 = .ok (.iload_n 1, 1) := by decide +kernel
theorem dX1_init_67 : decode cX1_init 67 = .ok (.bipush 10, 2) := by decide +kernel
theorem dX1_init_69 : decode cX1_init 69 = .ok (.if_icmp .ge 23, 3) := by decide +kernel
theorem dX1_init_72 : decode cX1_init 72 = .ok (.aload_n 0, 1) := by decide +kernel
theorem dX1_init_73 : decode cX1_init 73 = .ok (.getfield 21, 3) := by decide +kernel
theorem dX1_init_76 : decode cX1_init 76 = .ok (.iload_n 1, 1) := by decide +kernel
theorem dX1_init_77 : decode cX1_init 77 = .ok (.iload_n 1, 1) := by decide +kernel
theorem dX1_init_78 : decode cX1_init 78 = .ok (.iastore, 1) := by decide +kernel
theorem dX1_init_79 : decode cX1_init 79 = .ok (.aload_n 0, 1) := by decide +kernel
theorem dX1_init_80 : decode cX1_init 80 = .ok (.getfield 24, 3) := by decide +kernel
theorem dX1_init_83 : decode cX1_init 83 = .ok (.iload_n 1, 1) := by decide +kernel
theorem dX1_init_84 : decode cX1_init 84 = .ok (.iload_n 1, 1) := by decide +kernel
theorem dX1_init_85 : decode cX1_init 85 = .ok (.iastore, 1) := by decide +kernel
theorem dX1_init_86 : decode cX1_init 86 = .ok (.iinc 1 1, 3) := by decide +kernel
theorem dX1_init_89 : decode cX1_init 89 = .ok (.goto (-23), 3) := by decide +kernel
theorem dX1_init_92 : decode cX1_init 92 = .ok (.aload_n 0, 1) := by decide +kernel
theorem dX1_init_93 : decode cX1_init 93 = .ok (.getfield 31, 3) := by decide +kernel
theorem dX1_init_96 : decode cX1_init 96 = .ok (.bipush 20, 2) := by decide +kernel
theorem dX1_init_98 : decode cX1_init 98 = .ok (.invokestatic 37, 3) := by decide +kernel
theorem dX1_init_101 : decode cX1_init 101 = .ok (.return_, 1) := by decide +kernel
theorem dX1_add_0 : decode cX1_add 0 = .ok (.aload_n 0, 1) := by decide +kernel
theorem dX1_add_1 : decode cX1_add 1 = .ok (.getfield 43, 3) := by decide +kernel
theorem dX1_add_4 : decode cX1_add 4 = .ok (.istore_n 3, 1) := by decide +kernel
theorem dX1_add_5 : decode cX1_add 5 = .ok (.aload_n 0, 1) := by decide +kernel
theorem dX1_add_6 : decode cX1_add 6 = .ok (.getfield 9, 3) := by decide +kernel
theorem dX1_add_9 : decode cX1_add 9 = .ok (.iload_n 3, 1) := by decide +kernel
theorem dX1_add_10 : decode cX1_add 10 = .ok (.iload_n 1, 1) := by decide +kernel
theorem dX1_add_11 : decode cX1_add 11 = .ok (.iastore, 1) := by decide +kernel
theorem dX1_add_12 : decode cX1_add 12 = .ok (.aload_n 0, 1) := by decide +kernel
theorem dX1_add_13 : decode cX1_add 13 = .ok (.getfield 15, 3) := by decide +kernel
theorem dX1_add_16 : decode cX1_add 16 = .ok (.iload_n 3, 1) := by decide +kernel
theorem dX1_add_17 : decode cX1_add 17 = .ok (.iload_n 2, 1) := by decide +kernel
theorem dX1_add_18 : decode cX1_add 18 = .ok (.iastore, 1) := by decide +kernel
theorem dX1_add_19 : decode cX1_add 19 = .ok (.aload_n 0, 1) := by decide +kernel
theorem dX1_add_20 : decode cX1_add 20 = .ok (.getfield 18, 3) := by decide +kernel
theorem dX1_add_23 : decode cX1_add 23 = .ok (.iload_n 3, 1) := by decide +kernel
theorem dX1_add_24 : decode cX1_add 24 = .ok (.iconst 0, 1) := by decide +kernel
theorem dX1_add_25 : decode cX1_add 25 = .ok (.iastore, 1) := by decide +kernel
theorem dX1_add_26 : decode cX1_add 26 = .ok (.aload_n 0, 1) := by decide +kernel
theorem dX1_add_27 : decode cX1_add 27 = .ok (.dup, 1) := by decide +kernel
theorem dX1_add_28 : decode cX1_add 28 = .ok (.getfield 43, 3) := by decide +kernel
theorem dX1_add_31 : decode cX1_add 31 = .ok (.iconst 1, 1) := by decide +kernel
theorem dX1_add_32 : decode cX1_add 32 = .ok (.iadd, 1) := by decide +kernel
theorem dX1_add_33 : decode cX1_add 33 = .ok (.putfield 43, 3) := by decide +kernel
theorem dX1_add_36 : decode cX1_add 36 = .ok (.aload_n 0, 1) := by decide +kernel
theorem dX1_add_37 : decode cX1_add 37 = .ok (.dup, 1) := by decide +kernel
theorem dX1_add_38 : decode cX1_add 38 = .ok (.getfield 46, 3) := by decide +kernel
theorem dX1_add_41 : decode cX1_add 41 = .ok (.iconst 1, 1) := by decide +kernel
theorem dX1_add_42 : decode cX1_add 42 = .ok (.iadd, 1) := by decide +kernel
theorem dX1_add_43 : decode cX1_add 43 = .ok (.putfield 46, 3) := by decide +kernel
theorem dX1_add_46 : decode cX1_add 46 = .ok (.iload_n 3, 1) := by decide +kernel
theorem dX1_add_47 : decode cX1_add 47 = .ok (.ireturn, 1) := by decide +kernel
theorem dX1_mark_0 : decode cX1_mark 0 = .ok (.aload_n 0, 1) := by decide +kernel
theorem dX1_mark_1 : decode cX1_mark 1 = .ok (.getfield 18, 3) := by decide +kernel
theorem dX1_mark_4 : decode cX1_mark 4 = .ok (.iload_n 1, 1) := by decide +kernel
theorem dX1_mark_5 : decode cX1_mark 5 = .ok (.iload_n 2, 1) := by decide +kernel
theorem dX1_mark_6 : decode cX1_mark 6 = .ok (.iastore, 1) := by decide +kernel
theorem dX1_mark_7 : decode cX1_mark 7 = .ok (.aload_n 0, 1) := by decide +kernel
theorem dX1_mark_8 : decode cX1_mark 8 = .ok (.dup, 1) := by decide +kernel
theorem dX1_mark_9 : decode cX1_mark 9 = .ok (.getfield 46, 3) := by decide +kernel
theorem dX1_mark_12 : decode cX1_mark 12 = .ok (.iconst 1, 1) := by decide +kernel
theorem dX1_mark_13 : decode cX1_mark 13 = .ok (.iadd, 1) := by decide +kernel
theorem dX1_mark_14 : decode cX1_mark 14 = .ok (.putfield 46, 3) := by decide +kernel
theorem dX1_mark_17 : decode cX1_mark 17 = .ok (.return_, 1) := by decide +kernel
theorem dX1_remove_0 : decode cX1_remove 0 = .ok (.aload_n 0, 1) := by decide +kernel
theorem dX1_remove_1 : decode cX1_remove 1 = .ok (.dup, 1) := by decide +kernel
theorem dX1_remove_2 : decode cX1_remove 2 = .ok (.getfield 43, 3) := by decide +kernel
theorem dX1_remove_5 : decode cX1_remove 5 = .ok (.iconst 1, 1) := by decide +kernel
theorem dX1_remove_6 : decode cX1_remove 6 = .ok (.isub, 1) := by decide +kernel
theorem dX1_remove_7 : decode cX1_remove 7 = .ok (.putfield 43, 3) := by decide +kernel
theorem dX1_remove_10 : decode cX1_remove 10 = .ok (.iload_n 1, 1) := by decide +kernel
theorem dX1_remove_11 : decode cX1_remove 11 = .ok (.istore_n 2, 1) := by decide +kernel
theorem dX1_remove_12 : decode cX1_remove 12 = .ok (.iload_n 2, 1) := by decide +kernel
theorem dX1_remove_13 : decode cX1_remove 13 = .ok (.aload_n 0, 1) := by decide +kernel
theorem dX1_remove_14 : decode cX1_remove 14 = .ok (.getfield 43, 3) := by decide +kernel
theorem dX1_remove_17 : decode cX1_remove 17 = .ok (.if_icmp .ge 51, 3) := by decide +kernel
theorem dX1_remove_20 : decode cX1_remove 20 = .ok (.aload_n 0, 1) := by decide +kernel
theorem dX1_remove_21 : decode cX1_remove 21 = .ok (.getfield 9, 3) := by decide +kernel
theorem dX1_remove_24 : decode cX1_remove 24 = .ok (.iload_n 2, 1) := by decide +kernel
theorem dX1_remove_25 : decode cX1_remove 25 = .ok (.aload_n 0, 1) := by decide +kernel
theorem dX1_remove_26 : decode cX1_remove 26 = .ok (.getfield 9, 3) := by decide +kernel
theorem dX1_remove_29 : decode cX1_remove 29 = .ok (.iload_n 2, 1) := by decide +kernel
theorem dX1_remove_30 : decode cX1_remove 30 = .ok (.iconst 1, 1) := by decide +kernel
theorem dX1_remove_31 : decode cX1_remove 31 = .ok (.iadd, 1) := by decide +kernel
theorem dX1_remove_32 : decode cX1_remove 32 = .ok (.iaload, 1) := by decide +kernel
theorem dX1_remove_33 : decode cX1_remove 33 = .ok (.iastore, 1) := by decide +kernel
theorem dX1_remove_34 : decode cX1_remove 34 = .ok (.aload_n 0, 1) := by decide +kernel
theorem dX1_remove_35 : decode cX1_remove 35 = .ok (.getfield 15, 3) := by decide +kernel
theorem dX1_remove_38 : decode cX1_remove 38 = .ok (.iload_n 2, 1) := by decide +kernel
theorem dX1_remove_39 : decode cX1_remove 39 = .ok (.aload_n 0, 1) := by decide +kernel
theorem dX1_remove_40 : decode cX1_remove 40 = .ok (.getfield 15, 3) := by decide +kernel
theorem dX1_remove_43 : decode cX1_remove 43 = .ok (.iload_n 2, 1) := by decide +kernel
theorem dX1_remove_44 : decode cX1_remove 44 = .ok (.iconst 1, 1) := by decide +kernel
theorem dX1_remove_45 : decode cX1_remove 45 = .ok (.iadd, 1) := by decide +kernel
theorem dX1_remove_46 : decode cX1_remove 46 = .ok (.iaload, 1) := by decide +kernel
theorem dX1_remove_47 : decode cX1_remove 47 = .ok (.iastore, 1) := by decide +kernel
theorem dX1_remove_48 : decode cX1_remove 48 = .ok (.aload_n 0, 1) := by decide +kernel
theorem dX1_remove_49 : decode cX1_remove 49 = .ok (.getfield 18, 3) := by decide +kernel
theorem dX1_remove_52 : decode cX1_remove 52 = .ok (.iload_n 2, 1) := by decide +kernel
theorem dX1_remove_53 : decode cX1_remove 53 = .ok (.aload_n 0, 1) := by decide +kernel
theorem dX1_remove_54 : decode cX1_remove 54 = .ok (.getfield 18, 3) := by decide +kernel
theorem dX1_remove_57 : decode cX1_remove 57 = .ok (.iload_n 2, 1) := by decide +kernel
theorem dX1_remove_58 : decode cX1_remove 58 = .ok (.iconst 1, 1) := by decide +kernel
theorem dX1_remove_59 : decode cX1_remove 59 = .ok (.iadd, 1) := by decide +kernel
theorem dX1_remove_60 : decode cX1_remove 60 = .ok (.iaload, 1) := by decide +kernel
theorem dX1_remove_61 : decode cX1_remove 61 = .ok (.iastore, 1) := by decide +kernel
theorem dX1_remove_62 : decode cX1_remove 62 = .ok (.iinc 2 1, 3) := by decide +kernel
theorem dX1_remove_65 : decode cX1_remove 65 = .ok (.goto (-53), 3) := by decide +kernel
theorem dX1_remove_68 : decode cX1_remove 68 = .ok (.aload_n 0, 1) := by decide +kernel
theorem dX1_remove_69 : decode cX1_remove 69 = .ok (.dup, 1) := by decide +kernel
theorem dX1_remove_70 : decode cX1_remove 70 = .ok (.getfield 46, 3) := by decide +kernel
theorem dX1_remove_73 : decode cX1_remove 73 = .ok (.iconst 1, 1) := by decide +kernel
theorem dX1_remove_74 : decode cX1_remove 74 = .ok (.iadd, 1) := by decide +kernel
theorem dX1_remove_75 : decode cX1_remove 75 = .ok (.putfield 46, 3) := by decide +kernel
theorem dX1_remove_78 : decode cX1_remove 78 = .ok (.return_, 1) := by decide +kernel
theorem dX1_swap_0 : decode cX1_swap 0 = .ok (.aload_n 0, 1) := by decide +kernel
theorem dX1_swap_1 : decode cX1_swap 1 = .ok (.getfield 24, 3) := by decide +kernel
theorem dX1_swap_4 : decode cX1_swap 4 = .ok (.iload_n 1, 1) := by decide +kernel
theorem dX1_swap_5 : decode cX1_swap 5 = .ok (.iaload, 1) := by decide +kernel
theorem dX1_swap_6 : decode cX1_swap 6 = .ok (.istore_n 3, 1) := by decide +kernel
theorem dX1_swap_7 : decode cX1_swap 7 = .ok (.aload_n 0, 1) := by decide +kernel
theorem dX1_swap_8 : decode cX1_swap 8 = .ok (.getfield 24, 3) := by decide +kernel
theorem dX1_swap_11 : decode cX1_swap 11 = .ok (.iload_n 1, 1) := by decide +kernel
theorem dX1_swap_12 : decode cX1_swap 12 = .ok (.aload_n 0, 1) := by decide +kernel
theorem dX1_swap_13 : decode cX1_swap 13 = .ok (.getfield 24, 3) := by decide +kernel
theorem dX1_swap_16 : decode cX1_swap 16 = .ok (.iload_n 2, 1) := by decide +kernel
theorem dX1_swap_17 : decode cX1_swap 17 = .ok (.iaload, 1) := by decide +kernel
theorem dX1_swap_18 : decode cX1_swap 18 = .ok (.iastore, 1) := by decide +kernel
theorem dX1_swap_19 : decode cX1_swap 19 = .ok (.aload_n 0, 1) := by decide +kernel
theorem dX1_swap_20 : decode cX1_swap 20 = .ok (.getfield 24, 3) := by decide +kernel
theorem dX1_swap_23 : decode cX1_swap 23 = .ok (.iload_n 2, 1) := by decide +kernel
theorem dX1_swap_24 : decode cX1_swap 24 = .ok (.iload_n 3, 1) := by decide +kernel
theorem dX1_swap_25 : decode cX1_swap 25 = .ok (.iastore, 1) := by decide +kernel
theorem dX1_swap_26 : decode cX1_swap 26 = .ok (.aload_n 0, 1) := by decide +kernel
theorem dX1_swap_27 : decode cX1_swap 27 = .ok (.getfield 21, 3) := by decide +kernel
theorem dX1_swap_30 : decode cX1_swap 30 = .ok (.aload_n 0, 1) := by decide +kernel
theorem dX1_swap_31 : decode cX1_swap 31 = .ok (.getfield 24, 3) := by decide +kernel
theorem dX1_swap_34 : decode cX1_swap 34 = .ok (.iload_n 1, 1) := by decide +kernel
theorem dX1_swap_35 : decode cX1_swap 35 = .ok (.iaload, 1) := by decide +kernel
theorem dX1_swap_36 : decode cX1_swap 36 = .ok (.iload_n 1, 1) := by decide +kernel
theorem dX1_swap_37 : decode cX1_swap 37 = .ok (.iastore, 1) := by decide +kernel
theorem dX1_swap_38 : decode cX1_swap 38 = .ok (.aload_n 0, 1) := by decide +kernel
theorem dX1_swap_39 : decode cX1_swap 39 = .ok (.getfield 21, 3) := by decide +kernel
theorem dX1_swap_42 : decode cX1_swap 42 = .ok (.aload_n 0, 1) := by decide +kernel
theorem dX1_swap_43 : decode cX1_swap 43 = .ok (.getfield 24, 3) := by decide +kernel
theorem dX1_swap_46 : decode cX1_swap 46 = .ok (.iload_n 2, 1) := by decide +kernel
theorem dX1_swap_47 : decode cX1_swap 47 = .ok (.iaload, 1) := by decide +kernel
theorem dX1_swap_48 : decode cX1_swap 48 = .ok (.iload_n 2, 1) := by decide +kernel
theorem dX1_swap_49 : decode cX1_swap 49 = .ok (.iastore, 1) := by decide +kernel
theorem dX1_swap_50 : decode cX1_swap 50 = .ok (.aload_n 0, 1) := by decide +kernel
theorem dX1_swap_51 : decode cX1_swap 51 = .ok (.dup, 1) := by decide +kernel
theorem dX1_swap_52 : decode cX1_swap 52 = .ok (.getfield 46, 3) := by decide +kernel
theorem dX1_swap_55 : decode cX1_swap 55 = .ok (.iconst 1, 1) := by decide +kernel
theorem dX1_swap_56 : decode cX1_swap 56 = .ok (.iadd, 1) := by decide +kernel
theorem dX1_swap_57 : decode cX1_swap 57 = .ok (.putfield 46, 3) := by decide +kernel
theorem dX1_swap_60 : decode cX1_swap 60 = .ok (.return_, 1) := by decide +kernel
theorem dX1_setMany_0 : decode cX1_setMany 0 = .ok (.aload_n 0, 1) := by decide +kernel
theorem dX1_setMany_1 : decode cX1_setMany 1 = .ok (.iload_n 1, 1) := by decide +kernel
theorem dX1_setMany_2 : decode cX1_setMany 2 = .ok (.putfield 27, 3) := by decide +kernel
theorem dX1_setMany_5 : decode cX1_setMany 5 = .ok (.aload_n 0, 1) := by decide +kernel
theorem dX1_setMany_6 : decode cX1_setMany 6 = .ok (.dup, 1) := by decide +kernel
theorem dX1_setMany_7 : decode cX1_setMany 7 = .ok (.getfield 46, 3) := by decide +kernel
theorem dX1_setMany_10 : decode cX1_setMany 10 = .ok (.iconst 1, 1) := by decide +kernel
theorem dX1_setMany_11 : decode cX1_setMany 11 = .ok (.iadd, 1) := by decide +kernel
theorem dX1_setMany_12 : decode cX1_setMany 12 = .ok (.putfield 46, 3) := by decide +kernel
theorem dX1_setMany_15 : decode cX1_setMany 15 = .ok (.return_, 1) := by decide +kernel
theorem dX1_setRoom_0 : decode cX1_setRoom 0 = .ok (.aload_n 0, 1) := by decide +kernel
theorem dX1_setRoom_1 : decode cX1_setRoom 1 = .ok (.getfield 31, 3) := by decide +kernel
theorem dX1_setRoom_4 : decode cX1_setRoom 4 = .ok (.iload_n 1, 1) := by decide +kernel
theorem dX1_setRoom_5 : decode cX1_setRoom 5 = .ok (.iload_n 2, 1) := by decide +kernel
theorem dX1_setRoom_6 : decode cX1_setRoom 6 = .ok (.iastore, 1) := by decide +kernel
theorem dX1_setRoom_7 : decode cX1_setRoom 7 = .ok (.aload_n 0, 1) := by decide +kernel
theorem dX1_setRoom_8 : decode cX1_setRoom 8 = .ok (.dup, 1) := by decide +kernel
theorem dX1_setRoom_9 : decode cX1_setRoom 9 = .ok (.getfield 46, 3) := by decide +kernel
theorem dX1_setRoom_12 : decode cX1_setRoom 12 = .ok (.iconst 1, 1) := by decide +kernel
theorem dX1_setRoom_13 : decode cX1_setRoom 13 = .ok (.iadd, 1) := by decide +kernel
theorem dX1_setRoom_14 : decode cX1_setRoom 14 = .ok (.putfield 46, 3) := by decide +kernel
theorem dX1_setRoom_17 : decode cX1_setRoom 17 = .ok (.return_, 1) := by decide +kernel
set_option maxRecDepth 20000 in
theorem ggX1_codeDensely_X1_hasLetterAt : GoodIn wsX1_codeDensely wsX1_hasLetterAt := goodIn_r _ [7, 8, 9, 10, 11, 12, 13, 14, 15, 16, 17, 18, 19] (by decide +kernel) (by decide +kernel)
set_option maxRecDepth 20000 in
theorem gX1_codeDensely_X1_hasLetterAt : GoodIn wsX1_codeDensely (wsV RX1 49 RX1 yX1_hasLetterAt wsX1_hasLetterAt) := goodIn_app (goodIn_of _ (by decide +kernel)) ggX1_codeDensely_X1_hasLetterAt
theorem dX1_codeDensely_0 : decode cX1_codeDensely 0 = .ok (.iconst 0, 1) := by decide +kernel
theorem dX1_codeDensely_1 : decode cX1_codeDensely 1 = .ok (.istore_n 1, 1) := by decide +kernel
theorem dX1_codeDensely_2 : decode cX1_codeDensely 2 = .ok (.iconst 0, 1) := by decide +kernel
theorem dX1_codeDensely_3 : decode cX1_codeDensely 3 = .ok (.istore_n 2, 1) := by decide +kernel
theorem dX1_codeDensely_4 : decode cX1_codeDensely 4 = .ok (.iload_n 2, 1) := by decide +kernel
theorem dX1_codeDensely_5 : decode cX1_codeDensely 5 = .ok (.bipush 10, 2) := by decide +kernel
theorem dX1_codeDensely_7 : decode cX1_codeDensely 7 = .ok (.if_icmp .ge 34, 3) := by decide +kernel
theorem dX1_codeDensely_10 : decode cX1_codeDensely 10 = .ok (.aload_n 0, 1) := by decide +kernel
theorem dX1_codeDensely_11 : decode cX1_codeDensely 11 = .ok (.getfield 21, 3) := by decide +kernel
theorem dX1_codeDensely_14 : decode cX1_codeDensely 14 = .ok (.iload_n 2, 1) := by decide +kernel
theorem dX1_codeDensely_15 : decode cX1_codeDensely 15 = .ok (.iaload, 1) := by decide +kernel
theorem dX1_codeDensely_16 : decode cX1_codeDensely 16 = .ok (.istore_n 3, 1) := by decide +kernel
theorem dX1_codeDensely_17 : decode cX1_codeDensely 17 = .ok (.aload_n 0, 1) := by decide +kernel
theorem dX1_codeDensely_18 : decode cX1_codeDensely 18 = .ok (.iload_n 3, 1) := by decide +kernel
theorem dX1_codeDensely_19 : decode cX1_codeDensely 19 = .ok (.invokevirtual 49, 3) := by decide +kernel
theorem dX1_codeDensely_22 : decode cX1_codeDensely 22 = .ok (.ifCond .eq 13, 3) := by decide +kernel
theorem dX1_codeDensely_25 : decode cX1_codeDensely 25 = .ok (.aload_n 0, 1) := by decide +kernel
theorem dX1_codeDensely_26 : decode cX1_codeDensely 26 = .ok (.getfield 34, 3) := by decide +kernel
theorem dX1_codeDensely_29 : decode cX1_codeDensely 29 = .ok (.iload_n 3, 1) := by decide +kernel
theorem dX1_codeDensely_30 : decode cX1_codeDensely 30 = .ok (.iload_n 1, 1) := by decide +kernel
theorem dX1_codeDensely_31 : decode cX1_codeDensely 31 = .ok (.iastore, 1) := by decide +kernel
theorem dX1_codeDensely_32 : decode cX1_codeDensely 32 = .ok (.iinc 1 1, 3) := by decide +kernel
theorem dX1_codeDensely_35 : decode cX1_codeDensely 35 = .ok (.iinc 2 1, 3) := by decide +kernel
theorem dX1_codeDensely_38 : decode cX1_codeDensely 38 = .ok (.goto (-34), 3) := by decide +kernel
theorem dX1_codeDensely_41 : decode cX1_codeDensely 41 = .ok (.iload_n 1, 1) := by decide +kernel
theorem dX1_codeDensely_42 : decode cX1_codeDensely 42 = .ok (.ireturn, 1) := by decide +kernel
set_option maxRecDepth 20000 in
theorem ggX1_takeCodes_X1_hasLetterAt : GoodIn wsX1_takeCodes wsX1_hasLetterAt := goodIn_r _ [6, 7, 8, 9, 10, 11, 12, 13, 14, 15, 16, 17, 18] (by decide +kernel) (by decide +kernel)
set_option maxRecDepth 20000 in
theorem gX1_takeCodes_X1_hasLetterAt : GoodIn wsX1_takeCodes (wsV RX1 49 RX1 yX1_hasLetterAt wsX1_hasLetterAt) := goodIn_app (goodIn_of _ (by decide +kernel)) ggX1_takeCodes_X1_hasLetterAt
theorem dX1_takeCodes_0 : decode cX1_takeCodes 0 = .ok (.iconst 0, 1) := by decide +kernel
theorem dX1_takeCodes_1 : decode cX1_takeCodes 1 = .ok (.istore_n 2, 1) := by decide +kernel
theorem dX1_takeCodes_2 : decode cX1_takeCodes 2 = .ok (.iload_n 2, 1) := by decide +kernel
theorem dX1_takeCodes_3 : decode cX1_takeCodes 3 = .ok (.bipush 10, 2) := by decide +kernel
theorem dX1_takeCodes_5 : decode cX1_takeCodes 5 = .ok (.if_icmp .ge 26, 3) := by decide +kernel
theorem dX1_takeCodes_8 : decode cX1_takeCodes 8 = .ok (.aload_n 0, 1) := by decide +kernel
theorem dX1_takeCodes_9 : decode cX1_takeCodes 9 = .ok (.iload_n 2, 1) := by decide +kernel
theorem dX1_takeCodes_10 : decode cX1_takeCodes 10 = .ok (.invokevirtual 49, 3) := by decide +kernel
theorem dX1_takeCodes_13 : decode cX1_takeCodes 13 = .ok (.ifCond .eq 12, 3) := by decide +kernel
theorem dX1_takeCodes_16 : decode cX1_takeCodes 16 = .ok (.aload_n 0, 1) := by decide +kernel
theorem dX1_takeCodes_17 : decode cX1_takeCodes 17 = .ok (.getfield 34, 3) := by decide +kernel
theorem dX1_takeCodes_20 : decode cX1_takeCodes 20 = .ok (.iload_n 2, 1) := by decide +kernel
theorem dX1_takeCodes_21 : decode cX1_takeCodes 21 = .ok (.aload_n 1, 1) := by decide +kernel
theorem dX1_takeCodes_22 : decode cX1_takeCodes 22 = .ok (.iload_n 2, 1) := by decide +kernel
theorem dX1_takeCodes_23 : decode cX1_takeCodes 23 = .ok (.iaload, 1) := by decide +kernel
theorem dX1_takeCodes_24 : decode cX1_takeCodes 24 = .ok (.iastore, 1) := by decide +kernel
theorem dX1_takeCodes_25 : decode cX1_takeCodes 25 = .ok (.iinc 2 1, 3) := by decide +kernel
theorem dX1_takeCodes_28 : decode cX1_takeCodes 28 = .ok (.goto (-26), 3) := by decide +kernel
theorem dX1_takeCodes_31 : decode cX1_takeCodes 31 = .ok (.return_, 1) := by decide +kernel
set_option maxRecDepth 20000 in
theorem ggX1_codesRise_X1_hasLetterAt : GoodIn wsX1_codesRise wsX1_hasLetterAt := goodIn_r _ [7, 8, 9, 10, 11, 12, 13, 14, 15, 16, 17, 18, 19] (by decide +kernel) (by decide +kernel)
set_option maxRecDepth 20000 in
theorem gX1_codesRise_X1_hasLetterAt : GoodIn wsX1_codesRise (wsV RX1 49 RX1 yX1_hasLetterAt wsX1_hasLetterAt) := goodIn_app (goodIn_of _ (by decide +kernel)) ggX1_codesRise_X1_hasLetterAt
theorem dX1_codesRise_0 : decode cX1_codesRise 0 = .ok (.iconst (-1), 1) := by decide +kernel
theorem dX1_codesRise_1 : decode cX1_codesRise 1 = .ok (.istore_n 1, 1) := by decide +kernel
theorem dX1_codesRise_2 : decode cX1_codesRise 2 = .ok (.iconst 0, 1) := by decide +kernel
theorem dX1_codesRise_3 : decode cX1_codesRise 3 = .ok (.istore_n 2, 1) := by decide +kernel
theorem dX1_codesRise_4 : decode cX1_codesRise 4 = .ok (.iload_n 2, 1) := by decide +kernel
theorem dX1_codesRise_5 : decode cX1_codesRise 5 = .ok (.bipush 10, 2) := by decide +kernel
theorem dX1_codesRise_7 : decode cX1_codesRise 7 = .ok (.if_icmp .ge 43, 3) := by decide +kernel
theorem dX1_codesRise_10 : decode cX1_codesRise 10 = .ok (.aload_n 0, 1) := by decide +kernel
theorem dX1_codesRise_11 : decode cX1_codesRise 11 = .ok (.getfield 21, 3) := by decide +kernel
theorem dX1_codesRise_14 : decode cX1_codesRise 14 = .ok (.iload_n 2, 1) := by decide +kernel
theorem dX1_codesRise_15 : decode cX1_codesRise 15 = .ok (.iaload, 1) := by decide +kernel
theorem dX1_codesRise_16 : decode cX1_codesRise 16 = .ok (.istore_n 3, 1) := by decide +kernel
theorem dX1_codesRise_17 : decode cX1_codesRise 17 = .ok (.aload_n 0, 1) := by decide +kernel
theorem dX1_codesRise_18 : decode cX1_codesRise 18 = .ok (.iload_n 3, 1) := by decide +kernel
theorem dX1_codesRise_19 : decode cX1_codesRise 19 = .ok (.invokevirtual 49, 3) := by decide +kernel
theorem dX1_codesRise_22 : decode cX1_codesRise 22 = .ok (.ifCond .eq 22, 3) := by decide +kernel
theorem dX1_codesRise_25 : decode cX1_codesRise 25 = .ok (.aload_n 0, 1) := by decide +kernel
theorem dX1_codesRise_26 : decode cX1_codesRise 26 = .ok (.getfield 34, 3) := by decide +kernel
theorem dX1_codesRise_29 : decode cX1_codesRise 29 = .ok (.iload_n 3, 1) := by decide +kernel
theorem dX1_codesRise_30 : decode cX1_codesRise 30 = .ok (.iaload, 1) := by decide +kernel
theorem dX1_codesRise_31 : decode cX1_codesRise 31 = .ok (.iload_n 1, 1) := by decide +kernel
theorem dX1_codesRise_32 : decode cX1_codesRise 32 = .ok (.if_icmp .gt 5, 3) := by decide +kernel
theorem dX1_codesRise_35 : decode cX1_codesRise 35 = .ok (.iconst 0, 1) := by decide +kernel
theorem dX1_codesRise_36 : decode cX1_codesRise 36 = .ok (.ireturn, 1) := by decide +kernel
theorem dX1_codesRise_37 : decode cX1_codesRise 37 = .ok (.aload_n 0, 1) := by decide +kernel
theorem dX1_codesRise_38 : decode cX1_codesRise 38 = .ok (.getfield 34, 3) := by decide +kernel
theorem dX1_codesRise_41 : decode cX1_codesRise 41 = .ok (.iload_n 3, 1) := by decide +kernel
theorem dX1_codesRise_42 : decode cX1_codesRise 42 = .ok (.iaload, 1) := by decide +kernel
theorem dX1_codesRise_43 : decode cX1_codesRise 43 = .ok (.istore_n 1, 1) := by decide +kernel
theorem dX1_codesRise_44 : decode cX1_codesRise 44 = .ok (.iinc 2 1, 3) := by decide +kernel
theorem dX1_codesRise_47 : decode cX1_codesRise 47 = .ok (.goto (-43), 3) := by decide +kernel
theorem dX1_codesRise_50 : decode cX1_codesRise 50 = .ok (.iconst 1, 1) := by decide +kernel
theorem dX1_codesRise_51 : decode cX1_codesRise 51 = .ok (.ireturn, 1) := by decide +kernel
theorem dX1_hasLetterAt_0 : decode cX1_hasLetterAt 0 = .ok (.iconst 0, 1) := by decide +kernel
theorem dX1_hasLetterAt_1 : decode cX1_hasLetterAt 1 = .ok (.istore_n 2, 1) := by decide +kernel
theorem dX1_hasLetterAt_2 : decode cX1_hasLetterAt 2 = .ok (.iload_n 2, 1) := by decide +kernel
theorem dX1_hasLetterAt_3 : decode cX1_hasLetterAt 3 = .ok (.aload_n 0, 1) := by decide +kernel
theorem dX1_hasLetterAt_4 : decode cX1_hasLetterAt 4 = .ok (.getfield 43, 3) := by decide +kernel
theorem dX1_hasLetterAt_7 : decode cX1_hasLetterAt 7 = .ok (.if_icmp .ge 21, 3) := by decide +kernel
theorem dX1_hasLetterAt_10 : decode cX1_hasLetterAt 10 = .ok (.aload_n 0, 1) := by decide +kernel
theorem dX1_hasLetterAt_11 : decode cX1_hasLetterAt 11 = .ok (.getfield 9, 3) := by decide +kernel
theorem dX1_hasLetterAt_14 : decode cX1_hasLetterAt 14 = .ok (.iload_n 2, 1) := by decide +kernel
theorem dX1_hasLetterAt_15 : decode cX1_hasLetterAt 15 = .ok (.iaload, 1) := by decide +kernel
theorem dX1_hasLetterAt_16 : decode cX1_hasLetterAt 16 = .ok (.iload_n 1, 1) := by decide +kernel
theorem dX1_hasLetterAt_17 : decode cX1_hasLetterAt 17 = .ok (.if_icmp .ne 5, 3) := by decide +kernel
theorem dX1_hasLetterAt_20 : decode cX1_hasLetterAt 20 = .ok (.iconst 1, 1) := by decide +kernel
theorem dX1_hasLetterAt_21 : decode cX1_hasLetterAt 21 = .ok (.ireturn, 1) := by decide +kernel
theorem dX1_hasLetterAt_22 : decode cX1_hasLetterAt 22 = .ok (.iinc 2 1, 3) := by decide +kernel
theorem dX1_hasLetterAt_25 : decode cX1_hasLetterAt 25 = .ok (.goto (-23), 3) := by decide +kernel
theorem dX1_hasLetterAt_28 : decode cX1_hasLetterAt 28 = .ok (.iconst 0, 1) := by decide +kernel
theorem dX1_hasLetterAt_29 : decode cX1_hasLetterAt 29 = .ok (.ireturn, 1) := by decide +kernel
set_option maxRecDepth 20000 in
theorem ggX1_countPoints_X1_hasLetterAt : GoodIn wsX1_countPoints wsX1_hasLetterAt := goodIn_r _ [5, 6, 7, 8, 9, 10, 11, 12, 13, 14, 15, 16, 17] (by decide +kernel) (by decide +kernel)
set_option maxRecDepth 20000 in
theorem gX1_countPoints_X1_hasLetterAt : GoodIn wsX1_countPoints (wsV RX1 49 RX1 yX1_hasLetterAt wsX1_hasLetterAt) := goodIn_app (goodIn_of _ (by decide +kernel)) ggX1_countPoints_X1_hasLetterAt
theorem dX1_countPoints_0 : decode cX1_countPoints 0 = .ok (.iconst 0, 1) := by decide +kernel
theorem dX1_countPoints_1 : decode cX1_countPoints 1 = .ok (.istore_n 1, 1) := by decide +kernel
theorem dX1_countPoints_2 : decode cX1_countPoints 2 = .ok (.iconst 0, 1) := by decide +kernel
theorem dX1_countPoints_3 : decode cX1_countPoints 3 = .ok (.istore_n 2, 1) := by decide +kernel
theorem dX1_countPoints_4 : decode cX1_countPoints 4 = .ok (.iload_n 2, 1) := by decide +kernel
theorem dX1_countPoints_5 : decode cX1_countPoints 5 = .ok (.bipush 10, 2) := by decide +kernel
theorem dX1_countPoints_7 : decode cX1_countPoints 7 = .ok (.if_icmp .ge 20, 3) := by decide +kernel
theorem dX1_countPoints_10 : decode cX1_countPoints 10 = .ok (.aload_n 0, 1) := by decide +kernel
theorem dX1_countPoints_11 : decode cX1_countPoints 11 = .ok (.iload_n 2, 1) := by decide +kernel
theorem dX1_countPoints_12 : decode cX1_countPoints 12 = .ok (.invokevirtual 49, 3) := by decide +kernel
theorem dX1_countPoints_15 : decode cX1_countPoints 15 = .ok (.ifCond .eq 6, 3) := by decide +kernel
theorem dX1_countPoints_18 : decode cX1_countPoints 18 = .ok (.iinc 1 1, 3) := by decide +kernel
theorem dX1_countPoints_21 : decode cX1_countPoints 21 = .ok (.iinc 2 1, 3) := by decide +kernel
theorem dX1_countPoints_24 : decode cX1_countPoints 24 = .ok (.goto (-20), 3) := by decide +kernel
theorem dX1_countPoints_27 : decode cX1_countPoints 27 = .ok (.iload_n 1, 1) := by decide +kernel
theorem dX1_countPoints_28 : decode cX1_countPoints 28 = .ok (.ireturn, 1) := by decide +kernel
set_option maxRecDepth 20000 in
theorem ggX1_countMisread_X1_addFirst : GoodIn wsX1_countMisread wsX1_addFirst := goodIn_r _ [6] (by decide +kernel) (by decide +kernel)
set_option maxRecDepth 20000 in
theorem gX1_countMisread_X1_addFirst : GoodIn wsX1_countMisread (va_wsS RX1 53 yX1_addFirst wsX1_addFirst) := goodIn_app (goodIn_of _ (by decide +kernel)) ggX1_countMisread_X1_addFirst
theorem dX1_countMisread_0 : decode cX1_countMisread 0 = .ok (.aload_n 0, 1) := by decide +kernel
theorem dX1_countMisread_1 : decode cX1_countMisread 1 = .ok (.getfield 18, 3) := by decide +kernel
theorem dX1_countMisread_4 : decode cX1_countMisread 4 = .ok (.aload_n 0, 1) := by decide +kernel
theorem dX1_countMisread_5 : decode cX1_countMisread 5 = .ok (.getfield 43, 3) := by decide +kernel
theorem dX1_countMisread_8 : decode cX1_countMisread 8 = .ok (.invokestatic 53, 3) := by decide +kernel
theorem dX1_countMisread_11 : decode cX1_countMisread 11 = .ok (.ireturn, 1) := by decide +kernel
set_option maxRecDepth 20000 in
theorem ggX1_addThicks_X1_addFirst : GoodIn wsX1_addThicks wsX1_addFirst := goodIn_r _ [6] (by decide +kernel) (by decide +kernel)
set_option maxRecDepth 20000 in
theorem gX1_addThicks_X1_addFirst : GoodIn wsX1_addThicks (va_wsS RX1 53 yX1_addFirst wsX1_addFirst) := goodIn_app (goodIn_of _ (by decide +kernel)) ggX1_addThicks_X1_addFirst
theorem dX1_addThicks_0 : decode cX1_addThicks 0 = .ok (.aload_n 0, 1) := by decide +kernel
theorem dX1_addThicks_1 : decode cX1_addThicks 1 = .ok (.getfield 15, 3) := by decide +kernel
theorem dX1_addThicks_4 : decode cX1_addThicks 4 = .ok (.aload_n 0, 1) := by decide +kernel
theorem dX1_addThicks_5 : decode cX1_addThicks 5 = .ok (.getfield 43, 3) := by decide +kernel
theorem dX1_addThicks_8 : decode cX1_addThicks 8 = .ok (.invokestatic 53, 3) := by decide +kernel
theorem dX1_addThicks_11 : decode cX1_addThicks 11 = .ok (.ireturn, 1) := by decide +kernel
set_option maxRecDepth 20000 in
theorem ggX1_addRooms_X1_addFirst : GoodIn wsX1_addRooms wsX1_addFirst := goodIn_r _ [6] (by decide +kernel) (by decide +kernel)
set_option maxRecDepth 20000 in
theorem gX1_addRooms_X1_addFirst : GoodIn wsX1_addRooms (va_wsS RX1 53 yX1_addFirst wsX1_addFirst) := goodIn_app (goodIn_of _ (by decide +kernel)) ggX1_addRooms_X1_addFirst
theorem dX1_addRooms_0 : decode cX1_addRooms 0 = .ok (.aload_n 0, 1) := by decide +kernel
theorem dX1_addRooms_1 : decode cX1_addRooms 1 = .ok (.getfield 31, 3) := by decide +kernel
theorem dX1_addRooms_4 : decode cX1_addRooms 4 = .ok (.aload_n 0, 1) := by decide +kernel
theorem dX1_addRooms_5 : decode cX1_addRooms 5 = .ok (.getfield 27, 3) := by decide +kernel
theorem dX1_addRooms_8 : decode cX1_addRooms 8 = .ok (.invokestatic 53, 3) := by decide +kernel
theorem dX1_addRooms_11 : decode cX1_addRooms 11 = .ok (.ireturn, 1) := by decide +kernel
theorem dX1_addFirst_0 : decode cX1_addFirst 0 = .ok (.iconst 0, 1) := by decide +kernel
theorem dX1_addFirst_1 : decode cX1_addFirst 1 = .ok (.istore_n 2, 1) := by decide +kernel
theorem dX1_addFirst_2 : decode cX1_addFirst 2 = .ok (.iconst 0, 1) := by decide +kernel
theorem dX1_addFirst_3 : decode cX1_addFirst 3 = .ok (.istore_n 3, 1) := by decide +kernel
theorem dX1_addFirst_4 : decode cX1_addFirst 4 = .ok (.iload_n 3, 1) := by decide +kernel
theorem dX1_addFirst_5 : decode cX1_addFirst 5 = .ok (.iload_n 1, 1) := by decide +kernel
theorem dX1_addFirst_6 : decode cX1_addFirst 6 = .ok (.if_icmp .ge 15, 3) := by decide +kernel
theorem dX1_addFirst_9 : decode cX1_addFirst 9 = .ok (.iload_n 2, 1) := by decide +kernel
theorem dX1_addFirst_10 : decode cX1_addFirst 10 = .ok (.aload_n 0, 1) := by decide +kernel
theorem dX1_addFirst_11 : decode cX1_addFirst 11 = .ok (.iload_n 3, 1) := by decide +kernel
theorem dX1_addFirst_12 : decode cX1_addFirst 12 = .ok (.iaload, 1) := by decide +kernel
theorem dX1_addFirst_13 : decode cX1_addFirst 13 = .ok (.iadd, 1) := by decide +kernel
theorem dX1_addFirst_14 : decode cX1_addFirst 14 = .ok (.istore_n 2, 1) := by decide +kernel
theorem dX1_addFirst_15 : decode cX1_addFirst 15 = .ok (.iinc 3 1, 3) := by decide +kernel
theorem dX1_addFirst_18 : decode cX1_addFirst 18 = .ok (.goto (-14), 3) := by decide +kernel
theorem dX1_addFirst_21 : decode cX1_addFirst 21 = .ok (.iload_n 2, 1) := by decide +kernel
theorem dX1_addFirst_22 : decode cX1_addFirst 22 = .ok (.ireturn, 1) := by decide +kernel
set_option maxRecDepth 20000 in
theorem ggX1_copyFrom_X1_copyRow : GoodIn wsX1_copyFrom wsX1_copyRow := goodIn_r _ [14, 15, 16, 17, 18] (by decide +kernel) (by decide +kernel)
set_option maxRecDepth 20000 in
theorem gX1_copyFrom_X1_copyRow : GoodIn wsX1_copyFrom (va_wsS RX1 57 yX1_copyRow wsX1_copyRow) := goodIn_app (goodIn_of _ (by decide +kernel)) ggX1_copyFrom_X1_copyRow
theorem dX1_copyFrom_0 : decode cX1_copyFrom 0 = .ok (.aload_n 0, 1) := by decide +kernel
theorem dX1_copyFrom_1 : decode cX1_copyFrom 1 = .ok (.aload_n 1, 1) := by decide +kernel
theorem dX1_copyFrom_2 : decode cX1_copyFrom 2 = .ok (.getfield 43, 3) := by decide +kernel
theorem dX1_copyFrom_5 : decode cX1_copyFrom 5 = .ok (.putfield 43, 3) := by decide +kernel
theorem dX1_copyFrom_8 : decode cX1_copyFrom 8 = .ok (.aload_n 1, 1) := by decide +kernel
theorem dX1_copyFrom_9 : decode cX1_copyFrom 9 = .ok (.getfield 9, 3) := by decide +kernel
theorem dX1_copyFrom_12 : decode cX1_copyFrom 12 = .ok (.aload_n 0, 1) := by decide +kernel
theorem dX1_copyFrom_13 : decode cX1_copyFrom 13 = .ok (.getfield 9, 3) := by decide +kernel
theorem dX1_copyFrom_16 : decode cX1_copyFrom 16 = .ok (.invokestatic 57, 3) := by decide +kernel
theorem dX1_copyFrom_19 : decode cX1_copyFrom 19 = .ok (.aload_n 1, 1) := by decide +kernel
theorem dX1_copyFrom_20 : decode cX1_copyFrom 20 = .ok (.getfield 15, 3) := by decide +kernel
theorem dX1_copyFrom_23 : decode cX1_copyFrom 23 = .ok (.aload_n 0, 1) := by decide +kernel
theorem dX1_copyFrom_24 : decode cX1_copyFrom 24 = .ok (.getfield 15, 3) := by decide +kernel
theorem dX1_copyFrom_27 : decode cX1_copyFrom 27 = .ok (.invokestatic 57, 3) := by decide +kernel
theorem dX1_copyFrom_30 : decode cX1_copyFrom 30 = .ok (.aload_n 1, 1) := by decide +kernel
theorem dX1_copyFrom_31 : decode cX1_copyFrom 31 = .ok (.getfield 18, 3) := by decide +kernel
theorem dX1_copyFrom_34 : decode cX1_copyFrom 34 = .ok (.aload_n 0, 1) := by decide +kernel
theorem dX1_copyFrom_35 : decode cX1_copyFrom 35 = .ok (.getfield 18, 3) := by decide +kernel
theorem dX1_copyFrom_38 : decode cX1_copyFrom 38 = .ok (.invokestatic 57, 3) := by decide +kernel
theorem dX1_copyFrom_41 : decode cX1_copyFrom 41 = .ok (.aload_n 1, 1) := by decide +kernel
theorem dX1_copyFrom_42 : decode cX1_copyFrom 42 = .ok (.getfield 21, 3) := by decide +kernel
theorem dX1_copyFrom_45 : decode cX1_copyFrom 45 = .ok (.aload_n 0, 1) := by decide +kernel
theorem dX1_copyFrom_46 : decode cX1_copyFrom 46 = .ok (.getfield 21, 3) := by decide +kernel
theorem dX1_copyFrom_49 : decode cX1_copyFrom 49 = .ok (.invokestatic 57, 3) := by decide +kernel
theorem dX1_copyFrom_52 : decode cX1_copyFrom 52 = .ok (.aload_n 1, 1) := by decide +kernel
theorem dX1_copyFrom_53 : decode cX1_copyFrom 53 = .ok (.getfield 24, 3) := by decide +kernel
theorem dX1_copyFrom_56 : decode cX1_copyFrom 56 = .ok (.aload_n 0, 1) := by decide +kernel
theorem dX1_copyFrom_57 : decode cX1_copyFrom 57 = .ok (.getfield 24, 3) := by decide +kernel
theorem dX1_copyFrom_60 : decode cX1_copyFrom 60 = .ok (.invokestatic 57, 3) := by decide +kernel
theorem dX1_copyFrom_63 : decode cX1_copyFrom 63 = .ok (.aload_n 0, 1) := by decide +kernel
theorem dX1_copyFrom_64 : decode cX1_copyFrom 64 = .ok (.aload_n 1, 1) := by decide +kernel
theorem dX1_copyFrom_65 : decode cX1_copyFrom 65 = .ok (.getfield 27, 3) := by decide +kernel
theorem dX1_copyFrom_68 : decode cX1_copyFrom 68 = .ok (.putfield 27, 3) := by decide +kernel
theorem dX1_copyFrom_71 : decode cX1_copyFrom 71 = .ok (.aload_n 1, 1) := by decide +kernel
theorem dX1_copyFrom_72 : decode cX1_copyFrom 72 = .ok (.getfield 31, 3) := by decide +kernel
theorem dX1_copyFrom_75 : decode cX1_copyFrom 75 = .ok (.aload_n 0, 1) := by decide +kernel
theorem dX1_copyFrom_76 : decode cX1_copyFrom 76 = .ok (.getfield 31, 3) := by decide +kernel
theorem dX1_copyFrom_79 : decode cX1_copyFrom 79 = .ok (.invokestatic 57, 3) := by decide +kernel
theorem dX1_copyFrom_82 : decode cX1_copyFrom 82 = .ok (.aload_n 1, 1) := by decide +kernel
theorem dX1_copyFrom_83 : decode cX1_copyFrom 83 = .ok (.getfield 34, 3) := by decide +kernel
theorem dX1_copyFrom_86 : decode cX1_copyFrom 86 = .ok (.aload_n 0, 1) := by decide +kernel
theorem dX1_copyFrom_87 : decode cX1_copyFrom 87 = .ok (.getfield 34, 3) := by decide +kernel
theorem dX1_copyFrom_90 : decode cX1_copyFrom 90 = .ok (.invokestatic 57, 3) := by decide +kernel
theorem dX1_copyFrom_93 : decode cX1_copyFrom 93 = .ok (.aload_n 0, 1) := by decide +kernel
theorem dX1_copyFrom_94 : decode cX1_copyFrom 94 = .ok (.dup, 1) := by decide +kernel
theorem dX1_copyFrom_95 : decode cX1_copyFrom 95 = .ok (.getfield 46, 3) := by decide +kernel
theorem dX1_copyFrom_98 : decode cX1_copyFrom 98 = .ok (.iconst 1, 1) := by decide +kernel
theorem dX1_copyFrom_99 : decode cX1_copyFrom 99 = .ok (.iadd, 1) := by decide +kernel
theorem dX1_copyFrom_100 : decode cX1_copyFrom 100 = .ok (.putfield 46, 3) := by decide +kernel
theorem dX1_copyFrom_103 : decode cX1_copyFrom 103 = .ok (.return_, 1) := by decide +kernel
theorem dX1_copyRow_0 : decode cX1_copyRow 0 = .ok (.aload_n 0, 1) := by decide +kernel
theorem dX1_copyRow_1 : decode cX1_copyRow 1 = .ok (.iconst 0, 1) := by decide +kernel
theorem dX1_copyRow_2 : decode cX1_copyRow 2 = .ok (.aload_n 1, 1) := by decide +kernel
theorem dX1_copyRow_3 : decode cX1_copyRow 3 = .ok (.iconst 0, 1) := by decide +kernel
theorem dX1_copyRow_4 : decode cX1_copyRow 4 = .ok (.aload_n 1, 1) := by decide +kernel
theorem dX1_copyRow_5 : decode cX1_copyRow 5 = .ok (.arraylength, 1) := by decide +kernel
theorem dX1_copyRow_6 : decode cX1_copyRow 6 = .ok (.invokestatic 61, 3) := by decide +kernel
theorem dX1_copyRow_9 : decode cX1_copyRow 9 = .ok (.return_, 1) := by decide +kernel
theorem dX2_init_0 : decode cX2_init 0 = .ok (.aload_n 0, 1) := by decide +kernel
theorem dX2_init_1 : decode cX2_init 1 = .ok (.invokespecial 3, 3) := by decide +kernel
theorem dX2_init_4 : decode cX2_init 4 = .ok (.aload_n 0, 1) := by decide +kernel
theorem dX2_init_5 : decode cX2_init 5 = .ok (.bipush 24, 2) := by decide +kernel
theorem dX2_init_7 : decode cX2_init 7 = .ok (.newarray .int, 2) := by decide +kernel
theorem dX2_init_9 : decode cX2_init 9 = .ok (.putfield 9, 3) := by decide +kernel
theorem dX2_init_12 : decode cX2_init 12 = .ok (.aload_n 0, 1) := by decide +kernel
theorem dX2_init_13 : decode cX2_init 13 = .ok (.bipush 24, 2) := by decide +kernel
theorem dX2_init_15 : decode cX2_init 15 = .ok (.newarray .int, 2) := by decide +kernel
theorem dX2_init_17 : decode cX2_init 17 = .ok (.putfield 15, 3) := by decide +kernel
theorem dX2_init_20 : decode cX2_init 20 = .ok (.aload_n 0, 1) := by decide +kernel
theorem dX2_init_21 : decode cX2_init 21 = .ok (.bipush 10, 2) := by decide +kernel
theorem dX2_init_23 : decode cX2_init 23 = .ok (.newarray .int, 2) := by decide +kernel
theorem dX2_init_25 : decode cX2_init 25 = .ok (.putfield 18, 3) := by decide +kernel
theorem dX2_init_28 : decode cX2_init 28 = .ok (.aload_n 0, 1) := by decide +kernel
theorem dX2_init_29 : decode cX2_init 29 = .ok (.iconst 4, 1) := by decide +kernel
theorem dX2_init_30 : decode cX2_init 30 = .ok (.bipush 24, 2) := by decide +kernel
theorem dX2_init_32 : decode cX2_init 32 = .ok (.multianewarray 21 2, 4) := by decide +kernel
theorem dX2_init_36 : decode cX2_init 36 = .ok (.putfield 23, 3) := by decide +kernel
theorem dX2_init_39 : decode cX2_init 39 = .ok (.aload_n 0, 1) := by decide +kernel
theorem dX2_init_40 : decode cX2_init 40 = .ok (.iconst 4, 1) := by decide +kernel
theorem dX2_init_41 : decode cX2_init 41 = .ok (.newarray .int, 2) := by decide +kernel
theorem dX2_init_43 : decode cX2_init 43 = .ok (.putfield 26, 3) := by decide +kernel
theorem dX2_init_46 : decode cX2_init 46 = .ok (.aload_n 0, 1) := by decide +kernel
theorem dX2_init_47 : decode cX2_init 47 = .ok (.iconst 4, 1) := by decide +kernel
theorem dX2_init_48 : decode cX2_init 48 = .ok (.newarray .int, 2) := by decide +kernel
theorem dX2_init_50 : decode cX2_init 50 = .ok (.putfield 29, 3) := by decide +kernel
theorem dX2_init_53 : decode cX2_init 53 = .ok (.return_, 1) := by decide +kernel
set_option maxRecDepth 20000 in
theorem ggX2_perform_X2_countSpilledUpTo : GoodIn wsX2_perform wsX2_countSpilledUpTo := goodIn_r _ [5, 6, 7, 8, 9, 4, 10, 11, 12, 13, 14, 15, 16, 17, 18, 19, 20, 21, 22, 23, 24, 25, 26, 27, 28, 29, 30, 31, 32, 33, 34, 35, 36, 37, 38, 39, 40, 41, 42, 43, 44, 45, 46, 47, 48, 49, 50, 51, 52, 53, 54, 55, 56] (by decide +kernel) (by decide +kernel)
set_option maxRecDepth 20000 in
theorem gX2_perform_X2_countSpilledUpTo : GoodIn wsX2_perform (wsV RX2 32 RX2 yX2_countSpilledUpTo wsX2_countSpilledUpTo) := goodIn_app (goodIn_of _ (by decide +kernel)) ggX2_perform_X2_countSpilledUpTo
theorem dX2_perform_0 : decode cX2_perform 0 = .ok (.aload_n 0, 1) := by decide +kernel
theorem dX2_perform_1 : decode cX2_perform 1 = .ok (.aload_n 1, 1) := by decide +kernel
theorem dX2_perform_2 : decode cX2_perform 2 = .ok (.aload_n 2, 1) := by decide +kernel
theorem dX2_perform_3 : decode cX2_perform 3 = .ok (.iload_n 3, 1) := by decide +kernel
theorem dX2_perform_4 : decode cX2_perform 4 = .ok (.bipush 24, 2) := by decide +kernel
theorem dX2_perform_6 : decode cX2_perform 6 = .ok (.invokevirtual 32, 3) := by decide +kernel
theorem dX2_perform_9 : decode cX2_perform 9 = .ok (.pop, 1) := by decide +kernel
theorem dX2_perform_10 : decode cX2_perform 10 = .ok (.return_, 1) := by decide +kernel
set_option maxRecDepth 20000 in
theorem ggX2_countSpilledUpTo_X2_begin : GoodIn wsX2_countSpilledUpTo wsX2_begin := goodIn_r _ [6, 1, 7, 8, 46, 47, 48, 49, 50, 51, 52, 36, 37, 38, 39, 40, 41, 42, 43, 44, 45] (by decide +kernel) (by decide +kernel)
set_option maxRecDepth 20000 in
theorem gX2_countSpilledUpTo_X2_begin : GoodIn wsX2_countSpilledUpTo (wsV RX2 36 RX2 yX2_begin wsX2_begin) := goodIn_app (goodIn_of _ (by decide +kernel)) ggX2_countSpilledUpTo_X2_begin
set_option maxRecDepth 20000 in
theorem ggX2_countSpilledUpTo_X2_aim : GoodIn wsX2_countSpilledUpTo wsX2_aim := goodIn_r _ [12, 13, 14, 15, 16, 46, 47, 48, 49, 50, 51, 52] (by decide +kernel) (by decide +kernel)
set_option maxRecDepth 20000 in
theorem gX2_countSpilledUpTo_X2_aim : GoodIn wsX2_countSpilledUpTo (wsV RX2 52 RX2 yX2_aim wsX2_aim) := goodIn_app (goodIn_of _ (by decide +kernel)) ggX2_countSpilledUpTo_X2_aim
set_option maxRecDepth 20000 in
theorem ggX2_countSpilledUpTo_X2_stack : GoodIn wsX2_countSpilledUpTo wsX2_stack := goodIn_r _ [20, 21, 22, 1, 8, 13, 7, 23, 24, 25, 26, 27, 46, 47, 48, 49, 50, 51, 52, 36, 37, 38, 39, 40, 41, 42, 43, 44, 45] (by decide +kernel) (by decide +kernel)
set_option maxRecDepth 20000 in
theorem gX2_countSpilledUpTo_X2_stack : GoodIn wsX2_countSpilledUpTo (wsV RX2 56 RX2 yX2_stack wsX2_stack) := goodIn_app (goodIn_of _ (by decide +kernel)) ggX2_countSpilledUpTo_X2_stack
set_option maxRecDepth 20000 in
theorem ggX2_countSpilledUpTo_X2_sweep : GoodIn wsX2_countSpilledUpTo wsX2_sweep := goodIn_r _ [31, 1, 23, 8, 21, 32, 33, 34, 35, 46, 47, 48, 49, 50, 51, 52] (by decide +kernel) (by decide +kernel)
set_option maxRecDepth 20000 in
theorem gX2_countSpilledUpTo_X2_sweep : GoodIn wsX2_countSpilledUpTo (wsV RX2 60 RX2 yX2_sweep wsX2_sweep) := goodIn_app (goodIn_of _ (by decide +kernel)) ggX2_countSpilledUpTo_X2_sweep
theorem dX2_countSpilledUpTo_0 : decode cX2_countSpilledUpTo 0 = .ok (.aload_n 0, 1) := by decide +kernel
theorem dX2_countSpilledUpTo_1 : decode cX2_countSpilledUpTo 1 = .ok (.aload_n 1, 1) := by decide +kernel
theorem dX2_countSpilledUpTo_2 : decode cX2_countSpilledUpTo 2 = .ok (.invokevirtual 36, 3) := by decide +kernel
theorem dX2_countSpilledUpTo_5 : decode cX2_countSpilledUpTo 5 = .ok (.iconst 1, 1) := by decide +kernel
theorem dX2_countSpilledUpTo_6 : decode cX2_countSpilledUpTo 6 = .ok (.istore 5, 2) := by decide +kernel
theorem dX2_countSpilledUpTo_8 : decode cX2_countSpilledUpTo 8 = .ok (.iconst 1, 1) := by decide +kernel
theorem dX2_countSpilledUpTo_9 : decode cX2_countSpilledUpTo 9 = .ok (.istore 6, 2) := by decide +kernel
theorem dX2_countSpilledUpTo_11 : decode cX2_countSpilledUpTo 11 = .ok (.iload 6, 2) := by decide +kernel
theorem dX2_countSpilledUpTo_13 : decode cX2_countSpilledUpTo 13 = .ok (.iload_n 3, 1) := by decide +kernel
theorem dX2_countSpilledUpTo_14 : decode cX2_countSpilledUpTo 14 = .ok (.if_icmp .gt 58, 3) := by decide +kernel
theorem dX2_countSpilledUpTo_17 : decode cX2_countSpilledUpTo 17 = .ok (.aload_n 1, 1) := by decide +kernel
theorem dX2_countSpilledUpTo_18 : decode cX2_countSpilledUpTo 18 = .ok (.getfield 40, 3) := by decide +kernel
theorem dX2_countSpilledUpTo_21 : decode cX2_countSpilledUpTo 21 = .ok (.aload_n 0, 1) := by decide +kernel
theorem dX2_countSpilledUpTo_22 : decode cX2_countSpilledUpTo 22 = .ok (.getfield 46, 3) := by decide +kernel
theorem dX2_countSpilledUpTo_25 : decode cX2_countSpilledUpTo 25 = .ok (.isub, 1) := by decide +kernel
theorem dX2_countSpilledUpTo_26 : decode cX2_countSpilledUpTo 26 = .ok (.iload 4, 2) := by decide +kernel
theorem dX2_countSpilledUpTo_28 : decode cX2_countSpilledUpTo 28 = .ok (.if_icmp .gt 44, 3) := by decide +kernel
theorem dX2_countSpilledUpTo_31 : decode cX2_countSpilledUpTo 31 = .ok (.aload_n 0, 1) := by decide +kernel
theorem dX2_countSpilledUpTo_32 : decode cX2_countSpilledUpTo 32 = .ok (.aload_n 2, 1) := by decide +kernel
theorem dX2_countSpilledUpTo_33 : decode cX2_countSpilledUpTo 33 = .ok (.iload 5, 2) := by decide +kernel
theorem dX2_countSpilledUpTo_35 : decode cX2_countSpilledUpTo 35 = .ok (.aload_n 1, 1) := by decide +kernel
theorem dX2_countSpilledUpTo_36 : decode cX2_countSpilledUpTo 36 = .ok (.getfield 49, 3) := by decide +kernel
theorem dX2_countSpilledUpTo_39 : decode cX2_countSpilledUpTo 39 = .ok (.invokevirtual 52, 3) := by decide +kernel
theorem dX2_countSpilledUpTo_42 : decode cX2_countSpilledUpTo 42 = .ok (.aload_n 0, 1) := by decide +kernel
theorem dX2_countSpilledUpTo_43 : decode cX2_countSpilledUpTo 43 = .ok (.aload_n 1, 1) := by decide +kernel
theorem dX2_countSpilledUpTo_44 : decode cX2_countSpilledUpTo 44 = .ok (.iload 6, 2) := by decide +kernel
theorem dX2_countSpilledUpTo_46 : decode cX2_countSpilledUpTo 46 = .ok (.invokevirtual 56, 3) := by decide +kernel
theorem dX2_countSpilledUpTo_49 : decode cX2_countSpilledUpTo 49 = .ok (.aload_n 0, 1) := by decide +kernel
theorem dX2_countSpilledUpTo_50 : decode cX2_countSpilledUpTo 50 = .ok (.aload_n 1, 1) := by decide +kernel
theorem dX2_countSpilledUpTo_51 : decode cX2_countSpilledUpTo 51 = .ok (.getfield 49, 3) := by decide +kernel
theorem dX2_countSpilledUpTo_54 : decode cX2_countSpilledUpTo 54 = .ok (.invokevirtual 60, 3) := by decide +kernel
theorem dX2_countSpilledUpTo_57 : decode cX2_countSpilledUpTo 57 = .ok (.iload 5, 2) := by decide +kernel
theorem dX2_countSpilledUpTo_59 : decode cX2_countSpilledUpTo 59 = .ok (.aload_n 1, 1) := by decide +kernel
theorem dX2_countSpilledUpTo_60 : decode cX2_countSpilledUpTo 60 = .ok (.getfield 49, 3) := by decide +kernel
theorem dX2_countSpilledUpTo_63 : decode cX2_countSpilledUpTo 63 = .ok (.imul, 1) := by decide +kernel
theorem dX2_countSpilledUpTo_64 : decode cX2_countSpilledUpTo 64 = .ok (.istore 5, 2) := by decide +kernel
theorem dX2_countSpilledUpTo_66 : decode cX2_countSpilledUpTo 66 = .ok (.iinc 6 1, 3) := by decide +kernel
theorem dX2_countSpilledUpTo_69 : decode cX2_countSpilledUpTo 69 = .ok (.goto (-58), 3) := by decide +kernel
theorem dX2_countSpilledUpTo_72 : decode cX2_countSpilledUpTo 72 = .ok (.aload_n 1, 1) := by decide +kernel
theorem dX2_countSpilledUpTo_73 : decode cX2_countSpilledUpTo 73 = .ok (.getfield 40, 3) := by decide +kernel
theorem dX2_countSpilledUpTo_76 : decode cX2_countSpilledUpTo 76 = .ok (.aload_n 0, 1) := by decide +kernel
theorem dX2_countSpilledUpTo_77 : decode cX2_countSpilledUpTo 77 = .ok (.getfield 46, 3) := by decide +kernel
theorem dX2_countSpilledUpTo_80 : decode cX2_countSpilledUpTo 80 = .ok (.isub, 1) := by decide +kernel
theorem dX2_countSpilledUpTo_81 : decode cX2_countSpilledUpTo 81 = .ok (.ireturn, 1) := by decide +kernel
theorem dX2_begin_0 : decode cX2_begin 0 = .ok (.aload_n 0, 1) := by decide +kernel
theorem dX2_begin_1 : decode cX2_begin 1 = .ok (.iconst 0, 1) := by decide +kernel
theorem dX2_begin_2 : decode cX2_begin 2 = .ok (.putfield 46, 3) := by decide +kernel
theorem dX2_begin_5 : decode cX2_begin 5 = .ok (.iconst 0, 1) := by decide +kernel
theorem dX2_begin_6 : decode cX2_begin 6 = .ok (.istore_n 2, 1) := by decide +kernel
theorem dX2_begin_7 : decode cX2_begin 7 = .ok (.iload_n 2, 1) := by decide +kernel
theorem dX2_begin_8 : decode cX2_begin 8 = .ok (.aload_n 1, 1) := by decide +kernel
theorem dX2_begin_9 : decode cX2_begin 9 = .ok (.getfield 40, 3) := by decide +kernel
theorem dX2_begin_12 : decode cX2_begin 12 = .ok (.if_icmp .ge 50, 3) := by decide +kernel
theorem dX2_begin_15 : decode cX2_begin 15 = .ok (.aload_n 0, 1) := by decide +kernel
theorem dX2_begin_16 : decode cX2_begin 16 = .ok (.getfield 15, 3) := by decide +kernel
theorem dX2_begin_19 : decode cX2_begin 19 = .ok (.iload_n 2, 1) := by decide +kernel
theorem dX2_begin_20 : decode cX2_begin 20 = .ok (.aload_n 1, 1) := by decide +kernel
theorem dX2_begin_21 : decode cX2_begin 21 = .ok (.getfield 64, 3) := by decide +kernel
theorem dX2_begin_24 : decode cX2_begin 24 = .ok (.iload_n 2, 1) := by decide +kernel
theorem dX2_begin_25 : decode cX2_begin 25 = .ok (.iaload, 1) := by decide +kernel
theorem dX2_begin_26 : decode cX2_begin 26 = .ok (.iastore, 1) := by decide +kernel
theorem dX2_begin_27 : decode cX2_begin 27 = .ok (.aload_n 1, 1) := by decide +kernel
theorem dX2_begin_28 : decode cX2_begin 28 = .ok (.getfield 64, 3) := by decide +kernel
theorem dX2_begin_31 : decode cX2_begin 31 = .ok (.iload_n 2, 1) := by decide +kernel
theorem dX2_begin_32 : decode cX2_begin 32 = .ok (.iaload, 1) := by decide +kernel
theorem dX2_begin_33 : decode cX2_begin 33 = .ok (.ifCond .ne 23, 3) := by decide +kernel
theorem dX2_begin_36 : decode cX2_begin 36 = .ok (.aload_n 0, 1) := by decide +kernel
theorem dX2_begin_37 : decode cX2_begin 37 = .ok (.getfield 9, 3) := by decide +kernel
theorem dX2_begin_40 : decode cX2_begin 40 = .ok (.aload_n 0, 1) := by decide +kernel
theorem dX2_begin_41 : decode cX2_begin 41 = .ok (.getfield 46, 3) := by decide +kernel
theorem dX2_begin_44 : decode cX2_begin 44 = .ok (.iload_n 2, 1) := by decide +kernel
theorem dX2_begin_45 : decode cX2_begin 45 = .ok (.iastore, 1) := by decide +kernel
theorem dX2_begin_46 : decode cX2_begin 46 = .ok (.aload_n 0, 1) := by decide +kernel
theorem dX2_begin_47 : decode cX2_begin 47 = .ok (.dup, 1) := by decide +kernel
theorem dX2_begin_48 : decode cX2_begin 48 = .ok (.getfield 46, 3) := by decide +kernel
theorem dX2_begin_51 : decode cX2_begin 51 = .ok (.iconst 1, 1) := by decide +kernel
theorem dX2_begin_52 : decode cX2_begin 52 = .ok (.iadd, 1) := by decide +kernel
theorem dX2_begin_53 : decode cX2_begin 53 = .ok (.putfield 46, 3) := by decide +kernel
theorem dX2_begin_56 : decode cX2_begin 56 = .ok (.iinc 2 1, 3) := by decide +kernel
theorem dX2_begin_59 : decode cX2_begin 59 = .ok (.goto (-52), 3) := by decide +kernel
theorem dX2_begin_62 : decode cX2_begin 62 = .ok (.return_, 1) := by decide +kernel
set_option maxRecDepth 20000 in
theorem ggX2_aim_X5_figure : GoodIn wsX2_aim wsX5_figure := goodIn_r _ [4] (by decide +kernel) (by decide +kernel)
set_option maxRecDepth 20000 in
theorem gX2_aim_X5_figure_n67 : GoodIn wsX2_aim (wsX5_figure) := ggX2_aim_X5_figure
theorem dX2_aim_0 : decode cX2_aim 0 = .ok (.iconst 0, 1) := by decide +kernel
theorem dX2_aim_1 : decode cX2_aim 1 = .ok (.istore 4, 2) := by decide +kernel
theorem dX2_aim_3 : decode cX2_aim 3 = .ok (.iload 4, 2) := by decide +kernel
theorem dX2_aim_5 : decode cX2_aim 5 = .ok (.bipush 10, 2) := by decide +kernel
theorem dX2_aim_7 : decode cX2_aim 7 = .ok (.if_icmp .ge 25, 3) := by decide +kernel
theorem dX2_aim_10 : decode cX2_aim 10 = .ok (.aload_n 0, 1) := by decide +kernel
theorem dX2_aim_11 : decode cX2_aim 11 = .ok (.getfield 18, 3) := by decide +kernel
theorem dX2_aim_14 : decode cX2_aim 14 = .ok (.iload 4, 2) := by decide +kernel
theorem dX2_aim_16 : decode cX2_aim 16 = .ok (.aload_n 1, 1) := by decide +kernel
theorem dX2_aim_17 : decode cX2_aim 17 = .ok (.iload 4, 2) := by decide +kernel
theorem dX2_aim_19 : decode cX2_aim 19 = .ok (.iaload, 1) := by decide +kernel
theorem dX2_aim_20 : decode cX2_aim 20 = .ok (.iload_n 2, 1) := by decide +kernel
theorem dX2_aim_21 : decode cX2_aim 21 = .ok (.iload_n 3, 1) := by decide +kernel
theorem dX2_aim_22 : decode cX2_aim 22 = .ok (.invokestatic 67, 3) := by decide +kernel
theorem dX2_aim_25 : decode cX2_aim 25 = .ok (.iastore, 1) := by decide +kernel
theorem dX2_aim_26 : decode cX2_aim 26 = .ok (.iinc 4 1, 3) := by decide +kernel
theorem dX2_aim_29 : decode cX2_aim 29 = .ok (.goto (-26), 3) := by decide +kernel
theorem dX2_aim_32 : decode cX2_aim 32 = .ok (.return_, 1) := by decide +kernel
set_option maxRecDepth 20000 in
theorem ggX2_stack_J7_fill_53178 : GoodIn wsX2_stack wsJ7_fill_53178 := goodIn_r _ [11] (by decide +kernel) (by decide +kernel)
set_option maxRecDepth 20000 in
theorem gX2_stack_J7_fill_53178 : GoodIn wsX2_stack (va_wsS RX2 71 yJ7_fill_53178 wsJ7_fill_53178) := goodIn_app (goodIn_of _ (by decide +kernel)) ggX2_stack_J7_fill_53178
theorem dX2_stack_0 : decode cX2_stack 0 = .ok (.aload_n 0, 1) := by decide +kernel
theorem dX2_stack_1 : decode cX2_stack 1 = .ok (.getfield 26, 3) := by decide +kernel
theorem dX2_stack_4 : decode cX2_stack 4 = .ok (.iconst 0, 1) := by decide +kernel
theorem dX2_stack_5 : decode cX2_stack 5 = .ok (.invokestatic 71, 3) := by decide +kernel
theorem dX2_stack_8 : decode cX2_stack 8 = .ok (.aload_n 0, 1) := by decide +kernel
theorem dX2_stack_9 : decode cX2_stack 9 = .ok (.getfield 29, 3) := by decide +kernel
theorem dX2_stack_12 : decode cX2_stack 12 = .ok (.iconst 0, 1) := by decide +kernel
theorem dX2_stack_13 : decode cX2_stack 13 = .ok (.invokestatic 71, 3) := by decide +kernel
theorem dX2_stack_16 : decode cX2_stack 16 = .ok (.iconst 0, 1) := by decide +kernel
theorem dX2_stack_17 : decode cX2_stack 17 = .ok (.istore_n 3, 1) := by decide +kernel
theorem dX2_stack_18 : decode cX2_stack 18 = .ok (.iload_n 3, 1) := by decide +kernel
theorem dX2_stack_19 : decode cX2_stack 19 = .ok (.aload_n 0, 1) := by decide +kernel
theorem dX2_stack_20 : decode cX2_stack 20 = .ok (.getfield 46, 3) := by decide +kernel
theorem dX2_stack_23 : decode cX2_stack 23 = .ok (.if_icmp .ge 108, 3) := by decide +kernel
theorem dX2_stack_26 : decode cX2_stack 26 = .ok (.aload_n 0, 1) := by decide +kernel
theorem dX2_stack_27 : decode cX2_stack 27 = .ok (.getfield 9, 3) := by decide +kernel
theorem dX2_stack_30 : decode cX2_stack 30 = .ok (.iload_n 3, 1) := by decide +kernel
theorem dX2_stack_31 : decode cX2_stack 31 = .ok (.iaload, 1) := by decide +kernel
theorem dX2_stack_32 : decode cX2_stack 32 = .ok (.istore 4, 2) := by decide +kernel
theorem dX2_stack_34 : decode cX2_stack 34 = .ok (.aload_n 0, 1) := by decide +kernel
theorem dX2_stack_35 : decode cX2_stack 35 = .ok (.getfield 18, 3) := by decide +kernel
theorem dX2_stack_38 : decode cX2_stack 38 = .ok (.aload_n 1, 1) := by decide +kernel
theorem dX2_stack_39 : decode cX2_stack 39 = .ok (.getfield 77, 3) := by decide +kernel
theorem dX2_stack_42 : decode cX2_stack 42 = .ok (.iload 4, 2) := by decide +kernel
theorem dX2_stack_44 : decode cX2_stack 44 = .ok (.iaload, 1) := by decide +kernel
theorem dX2_stack_45 : decode cX2_stack 45 = .ok (.iaload, 1) := by decide +kernel
theorem dX2_stack_46 : decode cX2_stack 46 = .ok (.istore 5, 2) := by decide +kernel
theorem dX2_stack_48 : decode cX2_stack 48 = .ok (.aload_n 0, 1) := by decide +kernel
theorem dX2_stack_49 : decode cX2_stack 49 = .ok (.getfield 29, 3) := by decide +kernel
theorem dX2_stack_52 : decode cX2_stack 52 = .ok (.iload 5, 2) := by decide +kernel
theorem dX2_stack_54 : decode cX2_stack 54 = .ok (.iaload, 1) := by decide +kernel
theorem dX2_stack_55 : decode cX2_stack 55 = .ok (.aload_n 1, 1) := by decide +kernel
theorem dX2_stack_56 : decode cX2_stack 56 = .ok (.getfield 80, 3) := by decide +kernel
theorem dX2_stack_59 : decode cX2_stack 59 = .ok (.iload 4, 2) := by decide +kernel
theorem dX2_stack_61 : decode cX2_stack 61 = .ok (.iaload, 1) := by decide +kernel
theorem dX2_stack_62 : decode cX2_stack 62 = .ok (.iadd, 1) := by decide +kernel
theorem dX2_stack_63 : decode cX2_stack 63 = .ok (.istore 6, 2) := by decide +kernel
theorem dX2_stack_65 : decode cX2_stack 65 = .ok (.iload 6, 2) := by decide +kernel
theorem dX2_stack_67 : decode cX2_stack 67 = .ok (.aload_n 1, 1) := by decide +kernel
theorem dX2_stack_68 : decode cX2_stack 68 = .ok (.getfield 83, 3) := by decide +kernel
theorem dX2_stack_71 : decode cX2_stack 71 = .ok (.iload 5, 2) := by decide +kernel
theorem dX2_stack_73 : decode cX2_stack 73 = .ok (.iaload, 1) := by decide +kernel
theorem dX2_stack_74 : decode cX2_stack 74 = .ok (.if_icmp .le 14, 3) := by decide +kernel
theorem dX2_stack_77 : decode cX2_stack 77 = .ok (.aload_n 0, 1) := by decide +kernel
theorem dX2_stack_78 : decode cX2_stack 78 = .ok (.getfield 15, 3) := by decide +kernel
theorem dX2_stack_81 : decode cX2_stack 81 = .ok (.iload 4, 2) := by decide +kernel
theorem dX2_stack_83 : decode cX2_stack 83 = .ok (.iload_n 2, 1) := by decide +kernel
theorem dX2_stack_84 : decode cX2_stack 84 = .ok (.iastore, 1) := by decide +kernel
theorem dX2_stack_85 : decode cX2_stack 85 = .ok (.goto 40, 3) := by decide +kernel
theorem dX2_stack_88 : decode cX2_stack 88 = .ok (.aload_n 0, 1) := by decide +kernel
theorem dX2_stack_89 : decode cX2_stack 89 = .ok (.getfield 29, 3) := by decide +kernel
theorem dX2_stack_92 : decode cX2_stack 92 = .ok (.iload 5, 2) := by decide +kernel
theorem dX2_stack_94 : decode cX2_stack 94 = .ok (.iload 6, 2) := by decide +kernel
theorem dX2_stack_96 : decode cX2_stack 96 = .ok (.iastore, 1) := by decide +kernel
theorem dX2_stack_97 : decode cX2_stack 97 = .ok (.aload_n 0, 1) := by decide +kernel
theorem dX2_stack_98 : decode cX2_stack 98 = .ok (.getfield 23, 3) := by decide +kernel
theorem dX2_stack_101 : decode cX2_stack 101 = .ok (.iload 5, 2) := by decide +kernel
theorem dX2_stack_103 : decode cX2_stack 103 = .ok (.aaload, 1) := by decide +kernel
theorem dX2_stack_104 : decode cX2_stack 104 = .ok (.aload_n 0, 1) := by decide +kernel
theorem dX2_stack_105 : decode cX2_stack 105 = .ok (.getfield 26, 3) := by decide +kernel
theorem dX2_stack_108 : decode cX2_stack 108 = .ok (.iload 5, 2) := by decide +kernel
theorem dX2_stack_110 : decode cX2_stack 110 = .ok (.iaload, 1) := by decide +kernel
theorem dX2_stack_111 : decode cX2_stack 111 = .ok (.iload 4, 2) := by decide +kernel
theorem dX2_stack_113 : decode cX2_stack 113 = .ok (.iastore, 1) := by decide +kernel
theorem dX2_stack_114 : decode cX2_stack 114 = .ok (.aload_n 0, 1) := by decide +kernel
theorem dX2_stack_115 : decode cX2_stack 115 = .ok (.getfield 26, 3) := by decide +kernel
theorem dX2_stack_118 : decode cX2_stack 118 = .ok (.iload 5, 2) := by decide +kernel
theorem dX2_stack_120 : decode cX2_stack 120 = .ok (.dup2, 1) := by decide +kernel
theorem dX2_stack_121 : decode cX2_stack 121 = .ok (.iaload, 1) := by decide +kernel
theorem dX2_stack_122 : decode cX2_stack 122 = .ok (.iconst 1, 1) := by decide +kernel
theorem dX2_stack_123 : decode cX2_stack 123 = .ok (.iadd, 1) := by decide +kernel
theorem dX2_stack_124 : decode cX2_stack 124 = .ok (.iastore, 1) := by decide +kernel
theorem dX2_stack_125 : decode cX2_stack 125 = .ok (.iinc 3 1, 3) := by decide +kernel
theorem dX2_stack_128 : decode cX2_stack 128 = .ok (.goto (-110), 3) := by decide +kernel
theorem dX2_stack_131 : decode cX2_stack 131 = .ok (.return_, 1) := by decide +kernel
theorem dX2_sweep_0 : decode cX2_sweep 0 = .ok (.aload_n 0, 1) := by decide +kernel
theorem dX2_sweep_1 : decode cX2_sweep 1 = .ok (.iconst 0, 1) := by decide +kernel
theorem dX2_sweep_2 : decode cX2_sweep 2 = .ok (.putfield 46, 3) := by decide +kernel
theorem dX2_sweep_5 : decode cX2_sweep 5 = .ok (.iconst 0, 1) := by decide +kernel
theorem dX2_sweep_6 : decode cX2_sweep 6 = .ok (.istore_n 2, 1) := by decide +kernel
theorem dX2_sweep_7 : decode cX2_sweep 7 = .ok (.iload_n 2, 1) := by decide +kernel
theorem dX2_sweep_8 : decode cX2_sweep 8 = .ok (.iload_n 1, 1) := by decide +kernel
theorem dX2_sweep_9 : decode cX2_sweep 9 = .ok (.if_icmp .ge 48, 3) := by decide +kernel
theorem dX2_sweep_12 : decode cX2_sweep 12 = .ok (.aload_n 0, 1) := by decide +kernel
theorem dX2_sweep_13 : decode cX2_sweep 13 = .ok (.getfield 23, 3) := by decide +kernel
theorem dX2_sweep_16 : decode cX2_sweep 16 = .ok (.iload_n 2, 1) := by decide +kernel
theorem dX2_sweep_17 : decode cX2_sweep 17 = .ok (.aaload, 1) := by decide +kernel
theorem dX2_sweep_18 : decode cX2_sweep 18 = .ok (.iconst 0, 1) := by decide +kernel
theorem dX2_sweep_19 : decode cX2_sweep 19 = .ok (.aload_n 0, 1) := by decide +kernel
theorem dX2_sweep_20 : decode cX2_sweep 20 = .ok (.getfield 9, 3) := by decide +kernel
theorem dX2_sweep_23 : decode cX2_sweep 23 = .ok (.aload_n 0, 1) := by decide +kernel
theorem dX2_sweep_24 : decode cX2_sweep 24 = .ok (.getfield 46, 3) := by decide +kernel
theorem dX2_sweep_27 : decode cX2_sweep 27 = .ok (.aload_n 0, 1) := by decide +kernel
theorem dX2_sweep_28 : decode cX2_sweep 28 = .ok (.getfield 26, 3) := by decide +kernel
theorem dX2_sweep_31 : decode cX2_sweep 31 = .ok (.iload_n 2, 1) := by decide +kernel
theorem dX2_sweep_32 : decode cX2_sweep 32 = .ok (.iaload, 1) := by decide +kernel
theorem dX2_sweep_33 : decode cX2_sweep 33 = .ok (.invokestatic 86, 3) := by decide +kernel
theorem dX2_sweep_36 : decode cX2_sweep 36 = .ok (.aload_n 0, 1) := by decide +kernel
theorem dX2_sweep_37 : decode cX2_sweep 37 = .ok (.dup, 1) := by decide +kernel
theorem dX2_sweep_38 : decode cX2_sweep 38 = .ok (.getfield 46, 3) := by decide +kernel
theorem dX2_sweep_41 : decode cX2_sweep 41 = .ok (.aload_n 0, 1) := by decide +kernel
theorem dX2_sweep_42 : decode cX2_sweep 42 = .ok (.getfield 26, 3) := by decide +kernel
theorem dX2_sweep_45 : decode cX2_sweep 45 = .ok (.iload_n 2, 1) := by decide +kernel
theorem dX2_sweep_46 : decode cX2_sweep 46 = .ok (.iaload, 1) := by decide +kernel
theorem dX2_sweep_47 : decode cX2_sweep 47 = .ok (.iadd, 1) := by decide +kernel
theorem dX2_sweep_48 : decode cX2_sweep 48 = .ok (.putfield 46, 3) := by decide +kernel
theorem dX2_sweep_51 : decode cX2_sweep 51 = .ok (.iinc 2 1, 3) := by decide +kernel
theorem dX2_sweep_54 : decode cX2_sweep 54 = .ok (.goto (-47), 3) := by decide +kernel
theorem dX2_sweep_57 : decode cX2_sweep 57 = .ok (.return_, 1) := by decide +kernel
theorem dX2_countSpilledAt_0 : decode cX2_countSpilledAt 0 = .ok (.iconst 0, 1) := by decide +kernel
theorem dX2_countSpilledAt_1 : decode cX2_countSpilledAt 1 = .ok (.istore_n 3, 1) := by decide +kernel
theorem dX2_countSpilledAt_2 : decode cX2_countSpilledAt 2 = .ok (.iconst 0, 1) := by decide +kernel
theorem dX2_countSpilledAt_3 : decode cX2_countSpilledAt 3 = .ok (.istore 4, 2) := by decide +kernel
theorem dX2_countSpilledAt_5 : decode cX2_countSpilledAt 5 = .ok (.iload 4, 2) := by decide +kernel
theorem dX2_countSpilledAt_7 : decode cX2_countSpilledAt 7 = .ok (.aload_n 1, 1) := by decide +kernel
theorem dX2_countSpilledAt_8 : decode cX2_countSpilledAt 8 = .ok (.getfield 40, 3) := by decide +kernel
theorem dX2_countSpilledAt_11 : decode cX2_countSpilledAt 11 = .ok (.if_icmp .ge 23, 3) := by decide +kernel
theorem dX2_countSpilledAt_14 : decode cX2_countSpilledAt 14 = .ok (.aload_n 0, 1) := by decide +kernel
theorem dX2_countSpilledAt_15 : decode cX2_countSpilledAt 15 = .ok (.getfield 15, 3) := by decide +kernel
theorem dX2_countSpilledAt_18 : decode cX2_countSpilledAt 18 = .ok (.iload 4, 2) := by decide +kernel
theorem dX2_countSpilledAt_20 : decode cX2_countSpilledAt 20 = .ok (.iaload, 1) := by decide +kernel
theorem dX2_countSpilledAt_21 : decode cX2_countSpilledAt 21 = .ok (.iload_n 2, 1) := by decide +kernel
theorem dX2_countSpilledAt_22 : decode cX2_countSpilledAt 22 = .ok (.if_icmp .ne 6, 3) := by decide +kernel
theorem dX2_countSpilledAt_25 : decode cX2_countSpilledAt 25 = .ok (.iinc 3 1, 3) := by decide +kernel
theorem dX2_countSpilledAt_28 : decode cX2_countSpilledAt 28 = .ok (.iinc 4 1, 3) := by decide +kernel
theorem dX2_countSpilledAt_31 : decode cX2_countSpilledAt 31 = .ok (.goto (-26), 3) := by decide +kernel
theorem dX2_countSpilledAt_34 : decode cX2_countSpilledAt 34 = .ok (.iload_n 3, 1) := by decide +kernel
theorem dX2_countSpilledAt_35 : decode cX2_countSpilledAt 35 = .ok (.ireturn, 1) := by decide +kernel
theorem dX2_countWrong_0 : decode cX2_countWrong 0 = .ok (.iconst 0, 1) := by decide +kernel
theorem dX2_countWrong_1 : decode cX2_countWrong 1 = .ok (.istore_n 2, 1) := by decide +kernel
theorem dX2_countWrong_2 : decode cX2_countWrong 2 = .ok (.iconst 1, 1) := by decide +kernel
theorem dX2_countWrong_3 : decode cX2_countWrong 3 = .ok (.istore_n 3, 1) := by decide +kernel
theorem dX2_countWrong_4 : decode cX2_countWrong 4 = .ok (.iload_n 3, 1) := by decide +kernel
theorem dX2_countWrong_5 : decode cX2_countWrong 5 = .ok (.aload_n 0, 1) := by decide +kernel
theorem dX2_countWrong_6 : decode cX2_countWrong 6 = .ok (.getfield 46, 3) := by decide +kernel
theorem dX2_countWrong_9 : decode cX2_countWrong 9 = .ok (.if_icmp .ge 67, 3) := by decide +kernel
theorem dX2_countWrong_12 : decode cX2_countWrong 12 = .ok (.aload_n 1, 1) := by decide +kernel
theorem dX2_countWrong_13 : decode cX2_countWrong 13 = .ok (.getfield 92, 3) := by decide +kernel
theorem dX2_countWrong_16 : decode cX2_countWrong 16 = .ok (.aload_n 1, 1) := by decide +kernel
theorem dX2_countWrong_17 : decode cX2_countWrong 17 = .ok (.getfield 77, 3) := by decide +kernel
theorem dX2_countWrong_20 : decode cX2_countWrong 20 = .ok (.aload_n 0, 1) := by decide +kernel
theorem dX2_countWrong_21 : decode cX2_countWrong 21 = .ok (.getfield 9, 3) := by decide +kernel
theorem dX2_countWrong_24 : decode cX2_countWrong 24 = .ok (.iload_n 3, 1) := by decide +kernel
theorem dX2_countWrong_25 : decode cX2_countWrong 25 = .ok (.iaload, 1) := by decide +kernel
theorem dX2_countWrong_26 : decode cX2_countWrong 26 = .ok (.iaload, 1) := by decide +kernel
theorem dX2_countWrong_27 : decode cX2_countWrong 27 = .ok (.iaload, 1) := by decide +kernel
theorem dX2_countWrong_28 : decode cX2_countWrong 28 = .ok (.istore 4, 2) := by decide +kernel
theorem dX2_countWrong_30 : decode cX2_countWrong 30 = .ok (.iconst 0, 1) := by decide +kernel
theorem dX2_countWrong_31 : decode cX2_countWrong 31 = .ok (.istore 5, 2) := by decide +kernel
theorem dX2_countWrong_33 : decode cX2_countWrong 33 = .ok (.iload 5, 2) := by decide +kernel
theorem dX2_countWrong_35 : decode cX2_countWrong 35 = .ok (.iload_n 3, 1) := by decide +kernel
theorem dX2_countWrong_36 : decode cX2_countWrong 36 = .ok (.if_icmp .ge 34, 3) := by decide +kernel
theorem dX2_countWrong_39 : decode cX2_countWrong 39 = .ok (.iload 4, 2) := by decide +kernel
theorem dX2_countWrong_41 : decode cX2_countWrong 41 = .ok (.aload_n 1, 1) := by decide +kernel
theorem dX2_countWrong_42 : decode cX2_countWrong 42 = .ok (.getfield 92, 3) := by decide +kernel
theorem dX2_countWrong_45 : decode cX2_countWrong 45 = .ok (.aload_n 1, 1) := by decide +kernel
theorem dX2_countWrong_46 : decode cX2_countWrong 46 = .ok (.getfield 77, 3) := by decide +kernel
theorem dX2_countWrong_49 : decode cX2_countWrong 49 = .ok (.aload_n 0, 1) := by decide +kernel
theorem dX2_countWrong_50 : decode cX2_countWrong 50 = .ok (.getfield 9, 3) := by decide +kernel
theorem dX2_countWrong_53 : decode cX2_countWrong 53 = .ok (.iload 5, 2) := by decide +kernel
theorem dX2_countWrong_55 : decode cX2_countWrong 55 = .ok (.iaload, 1) := by decide +kernel
theorem dX2_countWrong_56 : decode cX2_countWrong 56 = .ok (.iaload, 1) := by decide +kernel
theorem dX2_countWrong_57 : decode cX2_countWrong 57 = .ok (.iaload, 1) := by decide +kernel
theorem dX2_countWrong_58 : decode cX2_countWrong 58 = .ok (.if_icmp .ge 6, 3) := by decide +kernel
theorem dX2_countWrong_61 : decode cX2_countWrong 61 = .ok (.iinc 2 1, 3) := by decide +kernel
theorem dX2_countWrong_64 : decode cX2_countWrong 64 = .ok (.iinc 5 1, 3) := by decide +kernel
theorem dX2_countWrong_67 : decode cX2_countWrong 67 = .ok (.goto (-34), 3) := by decide +kernel
theorem dX2_countWrong_70 : decode cX2_countWrong 70 = .ok (.iinc 3 1, 3) := by decide +kernel
theorem dX2_countWrong_73 : decode cX2_countWrong 73 = .ok (.goto (-69), 3) := by decide +kernel
theorem dX2_countWrong_76 : decode cX2_countWrong 76 = .ok (.iload_n 2, 1) := by decide +kernel
theorem dX2_countWrong_77 : decode cX2_countWrong 77 = .ok (.ireturn, 1) := by decide +kernel
theorem dX3_init_0 : decode cX3_init 0 = .ok (.aload_n 0, 1) := by decide +kernel
theorem dX3_init_1 : decode cX3_init 1 = .ok (.invokespecial 3, 3) := by decide +kernel
theorem dX3_init_4 : decode cX3_init 4 = .ok (.aload_n 0, 1) := by decide +kernel
theorem dX3_init_5 : decode cX3_init 5 = .ok (.bipush 10, 2) := by decide +kernel
theorem dX3_init_7 : decode cX3_init 7 = .ok (.newarray .int, 2) := by decide +kernel
theorem dX3_init_9 : decode cX3_init 9 = .ok (.putfield 9, 3) := by decide +kernel
theorem dX3_init_12 : decode cX3_init 12 = .ok (.aload_n 0, 1) := by decide +kernel
theorem dX3_init_13 : decode cX3_init 13 = .ok (.bipush 10, 2) := by decide +kernel
theorem dX3_init_15 : decode cX3_init 15 = .ok (.newarray .int, 2) := by decide +kernel
theorem dX3_init_17 : decode cX3_init 17 = .ok (.putfield 15, 3) := by decide +kernel
theorem dX3_init_20 : decode cX3_init 20 = .ok (.return_, 1) := by decide +kernel
set_option maxRecDepth 20000 in
theorem ggX3_begin_X5_power : GoodIn wsX3_begin wsX5_power := goodIn_r _ [7] (by decide +kernel) (by decide +kernel)
set_option maxRecDepth 20000 in
theorem gX3_begin_X5_power_n24 : GoodIn wsX3_begin (wsX5_power) := ggX3_begin_X5_power
set_option maxRecDepth 20000 in
theorem ggX3_begin_X1_hasLetterAt : GoodIn wsX3_begin wsX1_hasLetterAt := goodIn_r _ [12, 13, 14, 15, 16, 17, 18, 19, 20, 21, 22, 23, 24] (by decide +kernel) (by decide +kernel)
set_option maxRecDepth 20000 in
theorem gX3_begin_X1_hasLetterAt : GoodIn wsX3_begin (wsV RX3 37 RX1 yX1_hasLetterAt wsX1_hasLetterAt) := goodIn_app (goodIn_of _ (by decide +kernel)) ggX3_begin_X1_hasLetterAt
theorem dX3_begin_0 : decode cX3_begin 0 = .ok (.aload_n 0, 1) := by decide +kernel
theorem dX3_begin_1 : decode cX3_begin 1 = .ok (.aload_n 1, 1) := by decide +kernel
theorem dX3_begin_2 : decode cX3_begin 2 = .ok (.getfield 18, 3) := by decide +kernel
theorem dX3_begin_5 : decode cX3_begin 5 = .ok (.iload_n 2, 1) := by decide +kernel
theorem dX3_begin_6 : decode cX3_begin 6 = .ok (.invokestatic 24, 3) := by decide +kernel
theorem dX3_begin_9 : decode cX3_begin 9 = .ok (.putfield 28, 3) := by decide +kernel
theorem dX3_begin_12 : decode cX3_begin 12 = .ok (.aload_n 0, 1) := by decide +kernel
theorem dX3_begin_13 : decode cX3_begin 13 = .ok (.iconst 0, 1) := by decide +kernel
theorem dX3_begin_14 : decode cX3_begin 14 = .ok (.putfield 31, 3) := by decide +kernel
theorem dX3_begin_17 : decode cX3_begin 17 = .ok (.iconst 0, 1) := by decide +kernel
theorem dX3_begin_18 : decode cX3_begin 18 = .ok (.istore_n 3, 1) := by decide +kernel
theorem dX3_begin_19 : decode cX3_begin 19 = .ok (.iload_n 3, 1) := by decide +kernel
theorem dX3_begin_20 : decode cX3_begin 20 = .ok (.bipush 10, 2) := by decide +kernel
theorem dX3_begin_22 : decode cX3_begin 22 = .ok (.if_icmp .ge 58, 3) := by decide +kernel
theorem dX3_begin_25 : decode cX3_begin 25 = .ok (.aload_n 1, 1) := by decide +kernel
theorem dX3_begin_26 : decode cX3_begin 26 = .ok (.getfield 34, 3) := by decide +kernel
theorem dX3_begin_29 : decode cX3_begin 29 = .ok (.iload_n 3, 1) := by decide +kernel
theorem dX3_begin_30 : decode cX3_begin 30 = .ok (.iaload, 1) := by decide +kernel
theorem dX3_begin_31 : decode cX3_begin 31 = .ok (.istore 4, 2) := by decide +kernel
theorem dX3_begin_33 : decode cX3_begin 33 = .ok (.aload_n 1, 1) := by decide +kernel
theorem dX3_begin_34 : decode cX3_begin 34 = .ok (.iload 4, 2) := by decide +kernel
theorem dX3_begin_36 : decode cX3_begin 36 = .ok (.invokevirtual 37, 3) := by decide +kernel
theorem dX3_begin_39 : decode cX3_begin 39 = .ok (.ifCond .eq 35, 3) := by decide +kernel
theorem dX3_begin_42 : decode cX3_begin 42 = .ok (.aload_n 0, 1) := by decide +kernel
theorem dX3_begin_43 : decode cX3_begin 43 = .ok (.getfield 9, 3) := by decide +kernel
theorem dX3_begin_46 : decode cX3_begin 46 = .ok (.aload_n 0, 1) := by decide +kernel
theorem dX3_begin_47 : decode cX3_begin 47 = .ok (.getfield 31, 3) := by decide +kernel
theorem dX3_begin_50 : decode cX3_begin 50 = .ok (.iload 4, 2) := by decide +kernel
theorem dX3_begin_52 : decode cX3_begin 52 = .ok (.iastore, 1) := by decide +kernel
theorem dX3_begin_53 : decode cX3_begin 53 = .ok (.aload_n 0, 1) := by decide +kernel
theorem dX3_begin_54 : decode cX3_begin 54 = .ok (.getfield 15, 3) := by decide +kernel
theorem dX3_begin_57 : decode cX3_begin 57 = .ok (.iload 4, 2) := by decide +kernel
theorem dX3_begin_59 : decode cX3_begin 59 = .ok (.aload_n 0, 1) := by decide +kernel
theorem dX3_begin_60 : decode cX3_begin 60 = .ok (.getfield 31, 3) := by decide +kernel
theorem dX3_begin_63 : decode cX3_begin 63 = .ok (.iastore, 1) := by decide +kernel
theorem dX3_begin_64 : decode cX3_begin 64 = .ok (.aload_n 0, 1) := by decide +kernel
theorem dX3_begin_65 : decode cX3_begin 65 = .ok (.dup, 1) := by decide +kernel
theorem dX3_begin_66 : decode cX3_begin 66 = .ok (.getfield 31, 3) := by decide +kernel
theorem dX3_begin_69 : decode cX3_begin 69 = .ok (.iconst 1, 1) := by decide +kernel
theorem dX3_begin_70 : decode cX3_begin 70 = .ok (.iadd, 1) := by decide +kernel
theorem dX3_begin_71 : decode cX3_begin 71 = .ok (.putfield 31, 3) := by decide +kernel
theorem dX3_begin_74 : decode cX3_begin 74 = .ok (.iinc 3 1, 3) := by decide +kernel
theorem dX3_begin_77 : decode cX3_begin 77 = .ok (.goto (-58), 3) := by decide +kernel
theorem dX3_begin_80 : decode cX3_begin 80 = .ok (.aload_n 0, 1) := by decide +kernel
theorem dX3_begin_81 : decode cX3_begin 81 = .ok (.getfield 31, 3) := by decide +kernel
theorem dX3_begin_84 : decode cX3_begin 84 = .ok (.aload_n 0, 1) := by decide +kernel
theorem dX3_begin_85 : decode cX3_begin 85 = .ok (.getfield 28, 3) := by decide +kernel
theorem dX3_begin_88 : decode cX3_begin 88 = .ok (.if_icmp .gt 7, 3) := by decide +kernel
theorem dX3_begin_91 : decode cX3_begin 91 = .ok (.iconst 1, 1) := by decide +kernel
theorem dX3_begin_92 : decode cX3_begin 92 = .ok (.goto 4, 3) := by decide +kernel
theorem dX3_begin_95 : decode cX3_begin 95 = .ok (.iconst 0, 1) := by decide +kernel
theorem dX3_begin_96 : decode cX3_begin 96 = .ok (.ireturn, 1) := by decide +kernel
set_option maxRecDepth 20000 in
theorem ggX3_advance_X3_raise : GoodIn wsX3_advance wsX3_raise := goodIn_r _ [13, 6, 7, 1, 14, 15, 16, 17] (by decide +kernel) (by decide +kernel)
set_option maxRecDepth 20000 in
theorem gX3_advance_X3_raise : GoodIn wsX3_advance (wsV RX3 46 RX3 yX3_raise wsX3_raise) := goodIn_app (goodIn_of _ (by decide +kernel)) ggX3_advance_X3_raise
theorem dX3_advance_0 : decode cX3_advance 0 = .ok (.iload_n 1, 1) := by decide +kernel
theorem dX3_advance_1 : decode cX3_advance 1 = .ok (.aload_n 0, 1) := by decide +kernel
theorem dX3_advance_2 : decode cX3_advance 2 = .ok (.getfield 31, 3) := by decide +kernel
theorem dX3_advance_5 : decode cX3_advance 5 = .ok (.invokestatic 41, 3) := by decide +kernel
theorem dX3_advance_8 : decode cX3_advance 8 = .ok (.iconst 1, 1) := by decide +kernel
theorem dX3_advance_9 : decode cX3_advance 9 = .ok (.isub, 1) := by decide +kernel
theorem dX3_advance_10 : decode cX3_advance 10 = .ok (.istore_n 2, 1) := by decide +kernel
theorem dX3_advance_11 : decode cX3_advance 11 = .ok (.iload_n 2, 1) := by decide +kernel
theorem dX3_advance_12 : decode cX3_advance 12 = .ok (.ifCond .lt 43, 3) := by decide +kernel
theorem dX3_advance_15 : decode cX3_advance 15 = .ok (.aload_n 0, 1) := by decide +kernel
theorem dX3_advance_16 : decode cX3_advance 16 = .ok (.getfield 31, 3) := by decide +kernel
theorem dX3_advance_19 : decode cX3_advance 19 = .ok (.iload_n 2, 1) := by decide +kernel
theorem dX3_advance_20 : decode cX3_advance 20 = .ok (.isub, 1) := by decide +kernel
theorem dX3_advance_21 : decode cX3_advance 21 = .ok (.istore_n 3, 1) := by decide +kernel
theorem dX3_advance_22 : decode cX3_advance 22 = .ok (.aload_n 0, 1) := by decide +kernel
theorem dX3_advance_23 : decode cX3_advance 23 = .ok (.getfield 15, 3) := by decide +kernel
theorem dX3_advance_26 : decode cX3_advance 26 = .ok (.aload_n 0, 1) := by decide +kernel
theorem dX3_advance_27 : decode cX3_advance 27 = .ok (.getfield 9, 3) := by decide +kernel
theorem dX3_advance_30 : decode cX3_advance 30 = .ok (.iload_n 2, 1) := by decide +kernel
theorem dX3_advance_31 : decode cX3_advance 31 = .ok (.iaload, 1) := by decide +kernel
theorem dX3_advance_32 : decode cX3_advance 32 = .ok (.iaload, 1) := by decide +kernel
theorem dX3_advance_33 : decode cX3_advance 33 = .ok (.aload_n 0, 1) := by decide +kernel
theorem dX3_advance_34 : decode cX3_advance 34 = .ok (.getfield 28, 3) := by decide +kernel
theorem dX3_advance_37 : decode cX3_advance 37 = .ok (.iload_n 3, 1) := by decide +kernel
theorem dX3_advance_38 : decode cX3_advance 38 = .ok (.isub, 1) := by decide +kernel
theorem dX3_advance_39 : decode cX3_advance 39 = .ok (.if_icmp .ge 10, 3) := by decide +kernel
theorem dX3_advance_42 : decode cX3_advance 42 = .ok (.aload_n 0, 1) := by decide +kernel
theorem dX3_advance_43 : decode cX3_advance 43 = .ok (.iload_n 2, 1) := by decide +kernel
theorem dX3_advance_44 : decode cX3_advance 44 = .ok (.invokevirtual 46, 3) := by decide +kernel
theorem dX3_advance_47 : decode cX3_advance 47 = .ok (.iconst 1, 1) := by decide +kernel
theorem dX3_advance_48 : decode cX3_advance 48 = .ok (.ireturn, 1) := by decide +kernel
theorem dX3_advance_49 : decode cX3_advance 49 = .ok (.iinc 2 (-1), 3) := by decide +kernel
theorem dX3_advance_52 : decode cX3_advance 52 = .ok (.goto (-41), 3) := by decide +kernel
theorem dX3_advance_55 : decode cX3_advance 55 = .ok (.iconst 0, 1) := by decide +kernel
theorem dX3_advance_56 : decode cX3_advance 56 = .ok (.ireturn, 1) := by decide +kernel
theorem dX3_raise_0 : decode cX3_raise 0 = .ok (.aload_n 0, 1) := by decide +kernel
theorem dX3_raise_1 : decode cX3_raise 1 = .ok (.getfield 15, 3) := by decide +kernel
theorem dX3_raise_4 : decode cX3_raise 4 = .ok (.aload_n 0, 1) := by decide +kernel
theorem dX3_raise_5 : decode cX3_raise 5 = .ok (.getfield 9, 3) := by decide +kernel
theorem dX3_raise_8 : decode cX3_raise 8 = .ok (.iload_n 1, 1) := by decide +kernel
theorem dX3_raise_9 : decode cX3_raise 9 = .ok (.iaload, 1) := by decide +kernel
theorem dX3_raise_10 : decode cX3_raise 10 = .ok (.iaload, 1) := by decide +kernel
theorem dX3_raise_11 : decode cX3_raise 11 = .ok (.istore_n 2, 1) := by decide +kernel
theorem dX3_raise_12 : decode cX3_raise 12 = .ok (.iload_n 1, 1) := by decide +kernel
theorem dX3_raise_13 : decode cX3_raise 13 = .ok (.istore_n 3, 1) := by decide +kernel
theorem dX3_raise_14 : decode cX3_raise 14 = .ok (.iload_n 3, 1) := by decide +kernel
theorem dX3_raise_15 : decode cX3_raise 15 = .ok (.aload_n 0, 1) := by decide +kernel
theorem dX3_raise_16 : decode cX3_raise 16 = .ok (.getfield 31, 3) := by decide +kernel
theorem dX3_raise_19 : decode cX3_raise 19 = .ok (.if_icmp .ge 24, 3) := by decide +kernel
theorem dX3_raise_22 : decode cX3_raise 22 = .ok (.iinc 2 1, 3) := by decide +kernel
theorem dX3_raise_25 : decode cX3_raise 25 = .ok (.aload_n 0, 1) := by decide +kernel
theorem dX3_raise_26 : decode cX3_raise 26 = .ok (.getfield 15, 3) := by decide +kernel
theorem dX3_raise_29 : decode cX3_raise 29 = .ok (.aload_n 0, 1) := by decide +kernel
theorem dX3_raise_30 : decode cX3_raise 30 = .ok (.getfield 9, 3) := by decide +kernel
theorem dX3_raise_33 : decode cX3_raise 33 = .ok (.iload_n 3, 1) := by decide +kernel
theorem dX3_raise_34 : decode cX3_raise 34 = .ok (.iaload, 1) := by decide +kernel
theorem dX3_raise_35 : decode cX3_raise 35 = .ok (.iload_n 2, 1) := by decide +kernel
theorem dX3_raise_36 : decode cX3_raise 36 = .ok (.iastore, 1) := by decide +kernel
theorem dX3_raise_37 : decode cX3_raise 37 = .ok (.iinc 3 1, 3) := by decide +kernel
theorem dX3_raise_40 : decode cX3_raise 40 = .ok (.goto (-26), 3) := by decide +kernel
theorem dX3_raise_43 : decode cX3_raise 43 = .ok (.return_, 1) := by decide +kernel
set_option maxRecDepth 20000 in
theorem ggX4_init_X3_init : GoodIn wsX4_init wsX3_init := goodIn_r _ [14, 15, 2, 3, 8, 16, 17, 18, 19, 20, 21] (by decide +kernel) (by decide +kernel)
set_option maxRecDepth 20000 in
theorem gX4_init_X3_init_n11 : GoodIn wsX4_init (wsX3_init) := ggX4_init_X3_init
theorem dX4_init_0 : decode cX4_init 0 = .ok (.aload_n 0, 1) := by decide +kernel
theorem dX4_init_1 : decode cX4_init 1 = .ok (.invokespecial 3, 3) := by decide +kernel
theorem dX4_init_4 : decode cX4_init 4 = .ok (.aload_n 0, 1) := by decide +kernel
theorem dX4_init_5 : decode cX4_init 5 = .ok (.new 9, 3) := by decide +kernel
theorem dX4_init_8 : decode cX4_init 8 = .ok (.dup, 1) := by decide +kernel
theorem dX4_init_9 : decode cX4_init 9 = .ok (.invokespecial 11, 3) := by decide +kernel
theorem dX4_init_12 : decode cX4_init 12 = .ok (.putfield 12, 3) := by decide +kernel
theorem dX4_init_15 : decode cX4_init 15 = .ok (.aload_n 0, 1) := by decide +kernel
theorem dX4_init_16 : decode cX4_init 16 = .ok (.bipush 10, 2) := by decide +kernel
theorem dX4_init_18 : decode cX4_init 18 = .ok (.newarray .int, 2) := by decide +kernel
theorem dX4_init_20 : decode cX4_init 20 = .ok (.putfield 18, 3) := by decide +kernel
theorem dX4_init_23 : decode cX4_init 23 = .ok (.aload_n 0, 1) := by decide +kernel
theorem dX4_init_24 : decode cX4_init 24 = .ok (.iconst 3, 1) := by decide +kernel
theorem dX4_init_25 : decode cX4_init 25 = .ok (.iconst 4, 1) := by decide +kernel
theorem dX4_init_26 : decode cX4_init 26 = .ok (.multianewarray 22 2, 4) := by decide +kernel
theorem dX4_init_30 : decode cX4_init 30 = .ok (.putfield 24, 3) := by decide +kernel
theorem dX4_init_33 : decode cX4_init 33 = .ok (.aload_n 0, 1) := by decide +kernel
theorem dX4_init_34 : decode cX4_init 34 = .ok (.iconst 4, 1) := by decide +kernel
theorem dX4_init_35 : decode cX4_init 35 = .ok (.newarray .int, 2) := by decide +kernel
theorem dX4_init_37 : decode cX4_init 37 = .ok (.putfield 27, 3) := by decide +kernel
theorem dX4_init_40 : decode cX4_init 40 = .ok (.return_, 1) := by decide +kernel
