theorem dX6_isRun_6 : decode cX6_isRun 6 = .ok (.ireturn, 1) := by decide +kernel
set_option maxRecDepth 20000 in
theorem ggX6_letter_X6_isPoint : GoodIn wsX6_letter wsX6_isPoint := goodIn_r _ [5, 6, 7, 4, 8] (by decide +kernel) (by decide +kernel)
set_option maxRecDepth 20000 in
theorem gX6_letter_X6_isPoint : GoodIn wsX6_letter (va_wsS RX6 45 yX6_isPoint wsX6_isPoint) := goodIn_app (goodIn_of _ (by decide +kernel)) ggX6_letter_X6_isPoint
set_option maxRecDepth 20000 in
theorem ggX6_letter_X6_in : GoodIn wsX6_letter wsX6_in := goodIn_r _ [8] (by decide +kernel) (by decide +kernel)
set_option maxRecDepth 20000 in
theorem gX6_letter_X6_in : GoodIn wsX6_letter (va_wsS RX6 41 yX6_in wsX6_in) := goodIn_app (goodIn_of _ (by decide +kernel)) ggX6_letter_X6_in
theorem dX6_letter_0 : decode cX6_letter 0 = .ok (.iload_n 1, 1) := by decide +kernel
theorem dX6_letter_1 : decode cX6_letter 1 = .ok (.invokestatic 45, 3) := by decide +kernel
theorem dX6_letter_4 : decode cX6_letter 4 = .ok (.ifCond .ne 5, 3) := by decide +kernel
theorem dX6_letter_7 : decode cX6_letter 7 = .ok (.iconst (-1), 1) := by decide +kernel
theorem dX6_letter_8 : decode cX6_letter 8 = .ok (.ireturn, 1) := by decide +kernel
theorem dX6_letter_9 : decode cX6_letter 9 = .ok (.iload_n 2, 1) := by decide +kernel
theorem dX6_letter_10 : decode cX6_letter 10 = .ok (.iconst 1, 1) := by decide +kernel
theorem dX6_letter_11 : decode cX6_letter 11 = .ok (.bipush 9, 2) := by decide +kernel
theorem dX6_letter_13 : decode cX6_letter 13 = .ok (.invokestatic 41, 3) := by decide +kernel
theorem dX6_letter_16 : decode cX6_letter 16 = .ok (.ifCond .ne 6, 3) := by decide +kernel
theorem dX6_letter_19 : decode cX6_letter 19 = .ok (.bipush (-2), 2) := by decide +kernel
theorem dX6_letter_21 : decode cX6_letter 21 = .ok (.ireturn, 1) := by decide +kernel
theorem dX6_letter_22 : decode cX6_letter 22 = .ok (.aload_n 0, 1) := by decide +kernel
theorem dX6_letter_23 : decode cX6_letter 23 = .ok (.getfield 7, 3) := by decide +kernel
theorem dX6_letter_26 : decode cX6_letter 26 = .ok (.bipush 25, 2) := by decide +kernel
theorem dX6_letter_28 : decode cX6_letter 28 = .ok (.iaload, 1) := by decide +kernel
theorem dX6_letter_29 : decode cX6_letter 29 = .ok (.istore_n 3, 1) := by decide +kernel
theorem dX6_letter_30 : decode cX6_letter 30 = .ok (.iload_n 3, 1) := by decide +kernel
theorem dX6_letter_31 : decode cX6_letter 31 = .ok (.bipush 24, 2) := by decide +kernel
theorem dX6_letter_33 : decode cX6_letter 33 = .ok (.if_icmp .ne 6, 3) := by decide +kernel
theorem dX6_letter_36 : decode cX6_letter 36 = .ok (.bipush (-4), 2) := by decide +kernel
theorem dX6_letter_38 : decode cX6_letter 38 = .ok (.ireturn, 1) := by decide +kernel
theorem dX6_letter_39 : decode cX6_letter 39 = .ok (.aload_n 0, 1) := by decide +kernel
theorem dX6_letter_40 : decode cX6_letter 40 = .ok (.getfield 7, 3) := by decide +kernel
theorem dX6_letter_43 : decode cX6_letter 43 = .ok (.bipush 26, 2) := by decide +kernel
theorem dX6_letter_45 : decode cX6_letter 45 = .ok (.iload_n 3, 1) := by decide +kernel
theorem dX6_letter_46 : decode cX6_letter 46 = .ok (.iadd, 1) := by decide +kernel
theorem dX6_letter_47 : decode cX6_letter 47 = .ok (.iload_n 1, 1) := by decide +kernel
theorem dX6_letter_48 : decode cX6_letter 48 = .ok (.iastore, 1) := by decide +kernel
theorem dX6_letter_49 : decode cX6_letter 49 = .ok (.aload_n 0, 1) := by decide +kernel
theorem dX6_letter_50 : decode cX6_letter 50 = .ok (.getfield 7, 3) := by decide +kernel
theorem dX6_letter_53 : decode cX6_letter 53 = .ok (.bipush 50, 2) := by decide +kernel
theorem dX6_letter_55 : decode cX6_letter 55 = .ok (.iload_n 3, 1) := by decide +kernel
theorem dX6_letter_56 : decode cX6_letter 56 = .ok (.iadd, 1) := by decide +kernel
theorem dX6_letter_57 : decode cX6_letter 57 = .ok (.iload_n 2, 1) := by decide +kernel
theorem dX6_letter_58 : decode cX6_letter 58 = .ok (.iastore, 1) := by decide +kernel
theorem dX6_letter_59 : decode cX6_letter 59 = .ok (.aload_n 0, 1) := by decide +kernel
theorem dX6_letter_60 : decode cX6_letter 60 = .ok (.getfield 7, 3) := by decide +kernel
theorem dX6_letter_63 : decode cX6_letter 63 = .ok (.bipush 74, 2) := by decide +kernel
theorem dX6_letter_65 : decode cX6_letter 65 = .ok (.iload_n 3, 1) := by decide +kernel
theorem dX6_letter_66 : decode cX6_letter 66 = .ok (.iadd, 1) := by decide +kernel
theorem dX6_letter_67 : decode cX6_letter 67 = .ok (.iconst 0, 1) := by decide +kernel
theorem dX6_letter_68 : decode cX6_letter 68 = .ok (.iastore, 1) := by decide +kernel
theorem dX6_letter_69 : decode cX6_letter 69 = .ok (.aload_n 0, 1) := by decide +kernel
theorem dX6_letter_70 : decode cX6_letter 70 = .ok (.getfield 7, 3) := by decide +kernel
theorem dX6_letter_73 : decode cX6_letter 73 = .ok (.bipush 25, 2) := by decide +kernel
theorem dX6_letter_75 : decode cX6_letter 75 = .ok (.dup2, 1) := by decide +kernel
theorem dX6_letter_76 : decode cX6_letter 76 = .ok (.iaload, 1) := by decide +kernel
theorem dX6_letter_77 : decode cX6_letter 77 = .ok (.iconst 1, 1) := by decide +kernel
theorem dX6_letter_78 : decode cX6_letter 78 = .ok (.iadd, 1) := by decide +kernel
theorem dX6_letter_79 : decode cX6_letter 79 = .ok (.iastore, 1) := by decide +kernel
theorem dX6_letter_80 : decode cX6_letter 80 = .ok (.iload_n 3, 1) := by decide +kernel
theorem dX6_letter_81 : decode cX6_letter 81 = .ok (.ireturn, 1) := by decide +kernel
theorem dX6_misreads_0 : decode cX6_misreads 0 = .ok (.iconst 0, 1) := by decide +kernel
theorem dX6_misreads_1 : decode cX6_misreads 1 = .ok (.istore_n 1, 1) := by decide +kernel
theorem dX6_misreads_2 : decode cX6_misreads 2 = .ok (.iconst 0, 1) := by decide +kernel
theorem dX6_misreads_3 : decode cX6_misreads 3 = .ok (.istore_n 2, 1) := by decide +kernel
theorem dX6_misreads_4 : decode cX6_misreads 4 = .ok (.iload_n 2, 1) := by decide +kernel
theorem dX6_misreads_5 : decode cX6_misreads 5 = .ok (.aload_n 0, 1) := by decide +kernel
theorem dX6_misreads_6 : decode cX6_misreads 6 = .ok (.getfield 7, 3) := by decide +kernel
theorem dX6_misreads_9 : decode cX6_misreads 9 = .ok (.bipush 25, 2) := by decide +kernel
theorem dX6_misreads_11 : decode cX6_misreads 11 = .ok (.iaload, 1) := by decide +kernel
theorem dX6_misreads_12 : decode cX6_misreads 12 = .ok (.if_icmp .ge 21, 3) := by decide +kernel
theorem dX6_misreads_15 : decode cX6_misreads 15 = .ok (.iload_n 1, 1) := by decide +kernel
theorem dX6_misreads_16 : decode cX6_misreads 16 = .ok (.aload_n 0, 1) := by decide +kernel
theorem dX6_misreads_17 : decode cX6_misreads 17 = .ok (.getfield 7, 3) := by decide +kernel
theorem dX6_misreads_20 : decode cX6_misreads 20 = .ok (.bipush 74, 2) := by decide +kernel
theorem dX6_misreads_22 : decode cX6_misreads 22 = .ok (.iload_n 2, 1) := by decide +kernel
theorem dX6_misreads_23 : decode cX6_misreads 23 = .ok (.iadd, 1) := by decide +kernel
theorem dX6_misreads_24 : decode cX6_misreads 24 = .ok (.iaload, 1) := by decide +kernel
theorem dX6_misreads_25 : decode cX6_misreads 25 = .ok (.iadd, 1) := by decide +kernel
theorem dX6_misreads_26 : decode cX6_misreads 26 = .ok (.istore_n 1, 1) := by decide +kernel
theorem dX6_misreads_27 : decode cX6_misreads 27 = .ok (.iinc 2 1, 3) := by decide +kernel
theorem dX6_misreads_30 : decode cX6_misreads 30 = .ok (.goto (-26), 3) := by decide +kernel
theorem dX6_misreads_33 : decode cX6_misreads 33 = .ok (.iload_n 1, 1) := by decide +kernel
theorem dX6_misreads_34 : decode cX6_misreads 34 = .ok (.ireturn, 1) := by decide +kernel
set_option maxRecDepth 20000 in
theorem ggX6_misread_X6_isLetter : GoodIn wsX6_misread wsX6_isLetter := goodIn_r _ [6, 1, 7, 8, 5, 9, 14, 15, 16, 17, 18, 19, 20, 21, 22, 23, 24, 25, 26, 27, 28, 29] (by decide +kernel) (by decide +kernel)
set_option maxRecDepth 20000 in
theorem gX6_misread_X6_isLetter : GoodIn wsX6_misread (wsV RX6 49 RX6 yX6_isLetter wsX6_isLetter) := goodIn_app (goodIn_of _ (by decide +kernel)) ggX6_misread_X6_isLetter
set_option maxRecDepth 20000 in
theorem ggX6_misread_X6_in : GoodIn wsX6_misread wsX6_in := goodIn_r _ [9] (by decide +kernel) (by decide +kernel)
set_option maxRecDepth 20000 in
theorem gX6_misread_X6_in : GoodIn wsX6_misread (va_wsS RX6 41 yX6_in wsX6_in) := goodIn_app (goodIn_of _ (by decide +kernel)) ggX6_misread_X6_in
set_option maxRecDepth 20000 in
theorem ggX6_misread_X6_misreads : GoodIn wsX6_misread wsX6_misreads := goodIn_r _ [13, 1, 14, 15, 16, 17, 18, 19, 20, 21, 22, 23, 24, 25, 26, 27, 28, 29] (by decide +kernel) (by decide +kernel)
set_option maxRecDepth 20000 in
theorem gX6_misread_X6_misreads : GoodIn wsX6_misread (wsV RX6 52 RX6 yX6_misreads wsX6_misreads) := goodIn_app (goodIn_of _ (by decide +kernel)) ggX6_misread_X6_misreads
theorem dX6_misread_0 : decode cX6_misread 0 = .ok (.aload_n 0, 1) := by decide +kernel
theorem dX6_misread_1 : decode cX6_misread 1 = .ok (.iload_n 1, 1) := by decide +kernel
theorem dX6_misread_2 : decode cX6_misread 2 = .ok (.invokevirtual 49, 3) := by decide +kernel
theorem dX6_misread_5 : decode cX6_misread 5 = .ok (.ifCond .ne 5, 3) := by decide +kernel
theorem dX6_misread_8 : decode cX6_misread 8 = .ok (.iconst (-1), 1) := by decide +kernel
theorem dX6_misread_9 : decode cX6_misread 9 = .ok (.ireturn, 1) := by decide +kernel
theorem dX6_misread_10 : decode cX6_misread 10 = .ok (.iload_n 2, 1) := by decide +kernel
theorem dX6_misread_11 : decode cX6_misread 11 = .ok (.iconst 0, 1) := by decide +kernel
theorem dX6_misread_12 : decode cX6_misread 12 = .ok (.iconst 1, 1) := by decide +kernel
theorem dX6_misread_13 : decode cX6_misread 13 = .ok (.invokestatic 41, 3) := by decide +kernel
theorem dX6_misread_16 : decode cX6_misread 16 = .ok (.ifCond .ne 6, 3) := by decide +kernel
theorem dX6_misread_19 : decode cX6_misread 19 = .ok (.bipush (-2), 2) := by decide +kernel
theorem dX6_misread_21 : decode cX6_misread 21 = .ok (.ireturn, 1) := by decide +kernel
theorem dX6_misread_22 : decode cX6_misread 22 = .ok (.aload_n 0, 1) := by decide +kernel
theorem dX6_misread_23 : decode cX6_misread 23 = .ok (.getfield 7, 3) := by decide +kernel
theorem dX6_misread_26 : decode cX6_misread 26 = .ok (.bipush 74, 2) := by decide +kernel
theorem dX6_misread_28 : decode cX6_misread 28 = .ok (.iload_n 1, 1) := by decide +kernel
theorem dX6_misread_29 : decode cX6_misread 29 = .ok (.iadd, 1) := by decide +kernel
theorem dX6_misread_30 : decode cX6_misread 30 = .ok (.iload_n 2, 1) := by decide +kernel
theorem dX6_misread_31 : decode cX6_misread 31 = .ok (.iastore, 1) := by decide +kernel
theorem dX6_misread_32 : decode cX6_misread 32 = .ok (.aload_n 0, 1) := by decide +kernel
theorem dX6_misread_33 : decode cX6_misread 33 = .ok (.invokevirtual 52, 3) := by decide +kernel
theorem dX6_misread_36 : decode cX6_misread 36 = .ok (.ireturn, 1) := by decide +kernel
set_option maxRecDepth 20000 in
theorem ggX6_drop_X6_isLetter : GoodIn wsX6_drop wsX6_isLetter := goodIn_r _ [6, 1, 7, 8, 5, 9, 10, 11, 12, 13, 14, 15, 16, 17, 18, 19, 20, 21, 22, 23, 24, 25] (by decide +kernel) (by decide +kernel)
set_option maxRecDepth 20000 in
theorem gX6_drop_X6_isLetter : GoodIn wsX6_drop (wsV RX6 49 RX6 yX6_isLetter wsX6_isLetter) := goodIn_app (goodIn_of _ (by decide +kernel)) ggX6_drop_X6_isLetter
theorem dX6_drop_0 : decode cX6_drop 0 = .ok (.aload_n 0, 1) := by decide +kernel
theorem dX6_drop_1 : decode cX6_drop 1 = .ok (.iload_n 1, 1) := by decide +kernel
theorem dX6_drop_2 : decode cX6_drop 2 = .ok (.invokevirtual 49, 3) := by decide +kernel
theorem dX6_drop_5 : decode cX6_drop 5 = .ok (.ifCond .ne 5, 3) := by decide +kernel
theorem dX6_drop_8 : decode cX6_drop 8 = .ok (.iconst (-1), 1) := by decide +kernel
theorem dX6_drop_9 : decode cX6_drop 9 = .ok (.ireturn, 1) := by decide +kernel
theorem dX6_drop_10 : decode cX6_drop 10 = .ok (.iload_n 1, 1) := by decide +kernel
theorem dX6_drop_11 : decode cX6_drop 11 = .ok (.istore_n 2, 1) := by decide +kernel
theorem dX6_drop_12 : decode cX6_drop 12 = .ok (.iload_n 2, 1) := by decide +kernel
theorem dX6_drop_13 : decode cX6_drop 13 = .ok (.iconst 1, 1) := by decide +kernel
theorem dX6_drop_14 : decode cX6_drop 14 = .ok (.iadd, 1) := by decide +kernel
theorem dX6_drop_15 : decode cX6_drop 15 = .ok (.aload_n 0, 1) := by decide +kernel
theorem dX6_drop_16 : decode cX6_drop 16 = .ok (.getfield 7, 3) := by decide +kernel
theorem dX6_drop_19 : decode cX6_drop 19 = .ok (.bipush 25, 2) := by decide +kernel
theorem dX6_drop_21 : decode cX6_drop 21 = .ok (.iaload, 1) := by decide +kernel
theorem dX6_drop_22 : decode cX6_drop 22 = .ok (.if_icmp .ge 69, 3) := by decide +kernel
theorem dX6_drop_25 : decode cX6_drop 25 = .ok (.aload_n 0, 1) := by decide +kernel
theorem dX6_drop_26 : decode cX6_drop 26 = .ok (.getfield 7, 3) := by decide +kernel
theorem dX6_drop_29 : decode cX6_drop 29 = .ok (.bipush 26, 2) := by decide +kernel
theorem dX6_drop_31 : decode cX6_drop 31 = .ok (.iload_n 2, 1) := by decide +kernel
theorem dX6_drop_32 : decode cX6_drop 32 = .ok (.iadd, 1) := by decide +kernel
theorem dX6_drop_33 : decode cX6_drop 33 = .ok (.aload_n 0, 1) := by decide +kernel
theorem dX6_drop_34 : decode cX6_drop 34 = .ok (.getfield 7, 3) := by decide +kernel
theorem dX6_drop_37 : decode cX6_drop 37 = .ok (.bipush 26, 2) := by decide +kernel
theorem dX6_drop_39 : decode cX6_drop 39 = .ok (.iload_n 2, 1) := by decide +kernel
theorem dX6_drop_40 : decode cX6_drop 40 = .ok (.iadd, 1) := by decide +kernel
theorem dX6_drop_41 : decode cX6_drop 41 = .ok (.iconst 1, 1) := by decide +kernel
theorem dX6_drop_42 : decode cX6_drop 42 = .ok (.iadd, 1) := by decide +kernel
theorem dX6_drop_43 : decode cX6_drop 43 = .ok (.iaload, 1) := by decide +kernel
theorem dX6_drop_44 : decode cX6_drop 44 = .ok (.iastore, 1) := by decide +kernel
theorem dX6_drop_45 : decode cX6_drop 45 = .ok (.aload_n 0, 1) := by decide +kernel
theorem dX6_drop_46 : decode cX6_drop 46 = .ok (.getfield 7, 3) := by decide +kernel
theorem dX6_drop_49 : decode cX6_drop 49 = .ok (.bipush 50, 2) := by decide +kernel
theorem dX6_drop_51 : decode cX6_drop 51 = .ok (.iload_n 2, 1) := by decide +kernel
theorem dX6_drop_52 : decode cX6_drop 52 = .ok (.iadd, 1) := by decide +kernel
theorem dX6_drop_53 : decode cX6_drop 53 = .ok (.aload_n 0, 1) := by decide +kernel
theorem dX6_drop_54 : decode cX6_drop 54 = .ok (.getfield 7, 3) := by decide +kernel
theorem dX6_drop_57 : decode cX6_drop 57 = .ok (.bipush 50, 2) := by decide +kernel
theorem dX6_drop_59 : decode cX6_drop 59 = .ok (.iload_n 2, 1) := by decide +kernel
theorem dX6_drop_60 : decode cX6_drop 60 = .ok (.iadd, 1) := by decide +kernel
theorem dX6_drop_61 : decode cX6_drop 61 = .ok (.iconst 1, 1) := by decide +kernel
theorem dX6_drop_62 : decode cX6_drop 62 = .ok (.iadd, 1) := by decide +kernel
theorem dX6_drop_63 : decode cX6_drop 63 = .ok (.iaload, 1) := by decide +kernel
theorem dX6_drop_64 : decode cX6_drop 64 = .ok (.iastore, 1) := by decide +kernel
theorem dX6_drop_65 : decode cX6_drop 65 = .ok (.aload_n 0, 1) := by decide +kernel
theorem dX6_drop_66 : decode cX6_drop 66 = .ok (.getfield 7, 3) := by decide +kernel
theorem dX6_drop_69 : decode cX6_drop 69 = .ok (.bipush 74, 2) := by decide +kernel
theorem dX6_drop_71 : decode cX6_drop 71 = .ok (.iload_n 2, 1) := by decide +kernel
theorem dX6_drop_72 : decode cX6_drop 72 = .ok (.iadd, 1) := by decide +kernel
theorem dX6_drop_73 : decode cX6_drop 73 = .ok (.aload_n 0, 1) := by decide +kernel
theorem dX6_drop_74 : decode cX6_drop 74 = .ok (.getfield 7, 3) := by decide +kernel
theorem dX6_drop_77 : decode cX6_drop 77 = .ok (.bipush 74, 2) := by decide +kernel
theorem dX6_drop_79 : decode cX6_drop 79 = .ok (.iload_n 2, 1) := by decide +kernel
theorem dX6_drop_80 : decode cX6_drop 80 = .ok (.iadd, 1) := by decide +kernel
theorem dX6_drop_81 : decode cX6_drop 81 = .ok (.iconst 1, 1) := by decide +kernel
theorem dX6_drop_82 : decode cX6_drop 82 = .ok (.iadd, 1) := by decide +kernel
theorem dX6_drop_83 : decode cX6_drop 83 = .ok (.iaload, 1) := by decide +kernel
theorem dX6_drop_84 : decode cX6_drop 84 = .ok (.iastore, 1) := by decide +kernel
theorem dX6_drop_85 : decode cX6_drop 85 = .ok (.iinc 2 1, 3) := by decide +kernel
theorem dX6_drop_88 : decode cX6_drop 88 = .ok (.goto (-76), 3) := by decide +kernel
theorem dX6_drop_91 : decode cX6_drop 91 = .ok (.aload_n 0, 1) := by decide +kernel
theorem dX6_drop_92 : decode cX6_drop 92 = .ok (.getfield 7, 3) := by decide +kernel
theorem dX6_drop_95 : decode cX6_drop 95 = .ok (.bipush 25, 2) := by decide +kernel
theorem dX6_drop_97 : decode cX6_drop 97 = .ok (.dup2, 1) := by decide +kernel
theorem dX6_drop_98 : decode cX6_drop 98 = .ok (.iaload, 1) := by decide +kernel
theorem dX6_drop_99 : decode cX6_drop 99 = .ok (.iconst 1, 1) := by decide +kernel
theorem dX6_drop_100 : decode cX6_drop 100 = .ok (.isub, 1) := by decide +kernel
theorem dX6_drop_101 : decode cX6_drop 101 = .ok (.iastore, 1) := by decide +kernel
theorem dX6_drop_102 : decode cX6_drop 102 = .ok (.aload_n 0, 1) := by decide +kernel
theorem dX6_drop_103 : decode cX6_drop 103 = .ok (.getfield 7, 3) := by decide +kernel
theorem dX6_drop_106 : decode cX6_drop 106 = .ok (.bipush 25, 2) := by decide +kernel
theorem dX6_drop_108 : decode cX6_drop 108 = .ok (.iaload, 1) := by decide +kernel
theorem dX6_drop_109 : decode cX6_drop 109 = .ok (.ireturn, 1) := by decide +kernel
theorem dX6_placeOf_0 : decode cX6_placeOf 0 = .ok (.bipush (-6), 2) := by decide +kernel
theorem dX6_placeOf_2 : decode cX6_placeOf 2 = .ok (.istore_n 2, 1) := by decide +kernel
theorem dX6_placeOf_3 : decode cX6_placeOf 3 = .ok (.iconst 0, 1) := by decide +kernel
theorem dX6_placeOf_4 : decode cX6_placeOf 4 = .ok (.istore_n 3, 1) := by decide +kernel
theorem dX6_placeOf_5 : decode cX6_placeOf 5 = .ok (.iload_n 3, 1) := by decide +kernel
theorem dX6_placeOf_6 : decode cX6_placeOf 6 = .ok (.bipush 10, 2) := by decide +kernel
theorem dX6_placeOf_8 : decode cX6_placeOf 8 = .ok (.if_icmp .ge 27, 3) := by decide +kernel
theorem dX6_placeOf_11 : decode cX6_placeOf 11 = .ok (.aload_n 0, 1) := by decide +kernel
theorem dX6_placeOf_12 : decode cX6_placeOf 12 = .ok (.getfield 7, 3) := by decide +kernel
theorem dX6_placeOf_15 : decode cX6_placeOf 15 = .ok (.iconst 0, 1) := by decide +kernel
theorem dX6_placeOf_16 : decode cX6_placeOf 16 = .ok (.iload_n 3, 1) := by decide +kernel
theorem dX6_placeOf_17 : decode cX6_placeOf 17 = .ok (.iadd, 1) := by decide +kernel
theorem dX6_placeOf_18 : decode cX6_placeOf 18 = .ok (.iaload, 1) := by decide +kernel
theorem dX6_placeOf_19 : decode cX6_placeOf 19 = .ok (.iload_n 1, 1) := by decide +kernel
theorem dX6_placeOf_20 : decode cX6_placeOf 20 = .ok (.if_icmp .ne 7, 3) := by decide +kernel
theorem dX6_placeOf_23 : decode cX6_placeOf 23 = .ok (.iload_n 3, 1) := by decide +kernel
theorem dX6_placeOf_24 : decode cX6_placeOf 24 = .ok (.goto 4, 3) := by decide +kernel
theorem dX6_placeOf_27 : decode cX6_placeOf 27 = .ok (.iload_n 2, 1) := by decide +kernel
theorem dX6_placeOf_28 : decode cX6_placeOf 28 = .ok (.istore_n 2, 1) := by decide +kernel
theorem dX6_placeOf_29 : decode cX6_placeOf 29 = .ok (.iinc 3 1, 3) := by decide +kernel
theorem dX6_placeOf_32 : decode cX6_placeOf 32 = .ok (.goto (-27), 3) := by decide +kernel
theorem dX6_placeOf_35 : decode cX6_placeOf 35 = .ok (.iload_n 2, 1) := by decide +kernel
theorem dX6_placeOf_36 : decode cX6_placeOf 36 = .ok (.ireturn, 1) := by decide +kernel
set_option maxRecDepth 20000 in
theorem ggX6_change_X6_isPoint : GoodIn wsX6_change wsX6_isPoint := goodIn_r _ [5, 6, 7, 4, 8] (by decide +kernel) (by decide +kernel)
set_option maxRecDepth 20000 in
theorem gX6_change_X6_isPoint : GoodIn wsX6_change (va_wsS RX6 45 yX6_isPoint wsX6_isPoint) := goodIn_app (goodIn_of _ (by decide +kernel)) ggX6_change_X6_isPoint
set_option maxRecDepth 20000 in
theorem ggX6_change_X6_placeOf : GoodIn wsX6_change wsX6_placeOf := goodIn_r _ [12, 1, 13, 14, 15, 16, 17, 18, 19, 20, 21, 22, 23, 24, 25, 26, 27, 28] (by decide +kernel) (by decide +kernel)
set_option maxRecDepth 20000 in
theorem gX6_change_X6_placeOf : GoodIn wsX6_change (wsV RX6 56 RX6 yX6_placeOf wsX6_placeOf) := goodIn_app (goodIn_of _ (by decide +kernel)) ggX6_change_X6_placeOf
theorem dX6_change_0 : decode cX6_change 0 = .ok (.iload_n 1, 1) := by decide +kernel
theorem dX6_change_1 : decode cX6_change 1 = .ok (.invokestatic 45, 3) := by decide +kernel
theorem dX6_change_4 : decode cX6_change 4 = .ok (.ifCond .eq 10, 3) := by decide +kernel
theorem dX6_change_7 : decode cX6_change 7 = .ok (.iload_n 2, 1) := by decide +kernel
theorem dX6_change_8 : decode cX6_change 8 = .ok (.invokestatic 45, 3) := by decide +kernel
theorem dX6_change_11 : decode cX6_change 11 = .ok (.ifCond .ne 5, 3) := by decide +kernel
theorem dX6_change_14 : decode cX6_change 14 = .ok (.iconst (-1), 1) := by decide +kernel
theorem dX6_change_15 : decode cX6_change 15 = .ok (.ireturn, 1) := by decide +kernel
theorem dX6_change_16 : decode cX6_change 16 = .ok (.aload_n 0, 1) := by decide +kernel
theorem dX6_change_17 : decode cX6_change 17 = .ok (.iload_n 1, 1) := by decide +kernel
theorem dX6_change_18 : decode cX6_change 18 = .ok (.invokevirtual 56, 3) := by decide +kernel
theorem dX6_change_21 : decode cX6_change 21 = .ok (.istore_n 3, 1) := by decide +kernel
theorem dX6_change_22 : decode cX6_change 22 = .ok (.aload_n 0, 1) := by decide +kernel
theorem dX6_change_23 : decode cX6_change 23 = .ok (.iload_n 2, 1) := by decide +kernel
theorem dX6_change_24 : decode cX6_change 24 = .ok (.invokevirtual 56, 3) := by decide +kernel
theorem dX6_change_27 : decode cX6_change 27 = .ok (.istore 4, 2) := by decide +kernel
theorem dX6_change_29 : decode cX6_change 29 = .ok (.aload_n 0, 1) := by decide +kernel
theorem dX6_change_30 : decode cX6_change 30 = .ok (.getfield 7, 3) := by decide +kernel
theorem dX6_change_33 : decode cX6_change 33 = .ok (.iconst 0, 1) := by decide +kernel
theorem dX6_change_34 : decode cX6_change 34 = .ok (.iload_n 3, 1) := by decide +kernel
theorem dX6_change_35 : decode cX6_change 35 = .ok (.iadd, 1) := by decide +kernel
theorem dX6_change_36 : decode cX6_change 36 = .ok (.iload_n 2, 1) := by decide +kernel
theorem dX6_change_37 : decode cX6_change 37 = .ok (.iastore, 1) := by decide +kernel
theorem dX6_change_38 : decode cX6_change 38 = .ok (.aload_n 0, 1) := by decide +kernel
theorem dX6_change_39 : decode cX6_change 39 = .ok (.getfield 7, 3) := by decide +kernel
theorem dX6_change_42 : decode cX6_change 42 = .ok (.iconst 0, 1) := by decide +kernel
theorem dX6_change_43 : decode cX6_change 43 = .ok (.iload 4, 2) := by decide +kernel
theorem dX6_change_45 : decode cX6_change 45 = .ok (.iadd, 1) := by decide +kernel
theorem dX6_change_46 : decode cX6_change 46 = .ok (.iload_n 1, 1) := by decide +kernel
theorem dX6_change_47 : decode cX6_change 47 = .ok (.iastore, 1) := by decide +kernel
theorem dX6_change_48 : decode cX6_change 48 = .ok (.iload 4, 2) := by decide +kernel
theorem dX6_change_50 : decode cX6_change 50 = .ok (.ireturn, 1) := by decide +kernel
set_option maxRecDepth 20000 in
theorem ggX6_walk_X6_in : GoodIn wsX6_walk wsX6_in := goodIn_r _ [5] (by decide +kernel) (by decide +kernel)
set_option maxRecDepth 20000 in
theorem gX6_walk_X6_in : GoodIn wsX6_walk (va_wsS RX6 41 yX6_in wsX6_in) := goodIn_app (goodIn_of _ (by decide +kernel)) ggX6_walk_X6_in
theorem dX6_walk_0 : decode cX6_walk 0 = .ok (.iload_n 1, 1) := by decide +kernel
theorem dX6_walk_1 : decode cX6_walk 1 = .ok (.iconst 0, 1) := by decide +kernel
theorem dX6_walk_2 : decode cX6_walk 2 = .ok (.bipush 9, 2) := by decide +kernel
theorem dX6_walk_4 : decode cX6_walk 4 = .ok (.invokestatic 41, 3) := by decide +kernel
theorem dX6_walk_7 : decode cX6_walk 7 = .ok (.ifCond .eq 14, 3) := by decide +kernel
theorem dX6_walk_10 : decode cX6_walk 10 = .ok (.aload_n 0, 1) := by decide +kernel
theorem dX6_walk_11 : decode cX6_walk 11 = .ok (.getfield 7, 3) := by decide +kernel
theorem dX6_walk_14 : decode cX6_walk 14 = .ok (.iconst 0, 1) := by decide +kernel
theorem dX6_walk_15 : decode cX6_walk 15 = .ok (.iload_n 1, 1) := by decide +kernel
theorem dX6_walk_16 : decode cX6_walk 16 = .ok (.iadd, 1) := by decide +kernel
theorem dX6_walk_17 : decode cX6_walk 17 = .ok (.iaload, 1) := by decide +kernel
theorem dX6_walk_18 : decode cX6_walk 18 = .ok (.goto 5, 3) := by decide +kernel
theorem dX6_walk_21 : decode cX6_walk 21 = .ok (.bipush (-2), 2) := by decide +kernel
theorem dX6_walk_23 : decode cX6_walk 23 = .ok (.ireturn, 1) := by decide +kernel
set_option maxRecDepth 20000 in
theorem ggX6_stackers_X6_in : GoodIn wsX6_stackers wsX6_in := goodIn_r _ [5] (by decide +kernel) (by decide +kernel)
set_option maxRecDepth 20000 in
theorem gX6_stackers_X6_in : GoodIn wsX6_stackers (va_wsS RX6 41 yX6_in wsX6_in) := goodIn_app (goodIn_of _ (by decide +kernel)) ggX6_stackers_X6_in
theorem dX6_stackers_0 : decode cX6_stackers 0 = .ok (.iload_n 1, 1) := by decide +kernel
theorem dX6_stackers_1 : decode cX6_stackers 1 = .ok (.iconst 2, 1) := by decide +kernel
theorem dX6_stackers_2 : decode cX6_stackers 2 = .ok (.iconst 4, 1) := by decide +kernel
theorem dX6_stackers_3 : decode cX6_stackers 3 = .ok (.invokestatic 41, 3) := by decide +kernel
theorem dX6_stackers_6 : decode cX6_stackers 6 = .ok (.ifCond .ne 6, 3) := by decide +kernel
theorem dX6_stackers_9 : decode cX6_stackers 9 = .ok (.bipush (-2), 2) := by decide +kernel
theorem dX6_stackers_11 : decode cX6_stackers 11 = .ok (.ireturn, 1) := by decide +kernel
theorem dX6_stackers_12 : decode cX6_stackers 12 = .ok (.aload_n 0, 1) := by decide +kernel
theorem dX6_stackers_13 : decode cX6_stackers 13 = .ok (.getfield 7, 3) := by decide +kernel
theorem dX6_stackers_16 : decode cX6_stackers 16 = .ok (.bipush 24, 2) := by decide +kernel
theorem dX6_stackers_18 : decode cX6_stackers 18 = .ok (.iaload, 1) := by decide +kernel
theorem dX6_stackers_19 : decode cX6_stackers 19 = .ok (.istore_n 2, 1) := by decide +kernel
theorem dX6_stackers_20 : decode cX6_stackers 20 = .ok (.aload_n 0, 1) := by decide +kernel
theorem dX6_stackers_21 : decode cX6_stackers 21 = .ok (.getfield 7, 3) := by decide +kernel
theorem dX6_stackers_24 : decode cX6_stackers 24 = .ok (.bipush 24, 2) := by decide +kernel
theorem dX6_stackers_26 : decode cX6_stackers 26 = .ok (.iload_n 1, 1) := by decide +kernel
theorem dX6_stackers_27 : decode cX6_stackers 27 = .ok (.iastore, 1) := by decide +kernel
theorem dX6_stackers_28 : decode cX6_stackers 28 = .ok (.iload_n 2, 1) := by decide +kernel
theorem dX6_stackers_29 : decode cX6_stackers 29 = .ok (.ireturn, 1) := by decide +kernel
set_option maxRecDepth 20000 in
theorem ggX6_room_X6_isStacker : GoodIn wsX6_room wsX6_isStacker := goodIn_r _ [6, 1, 7, 8, 5, 9, 10, 11, 12, 13, 14, 15, 16, 17, 18, 19, 20, 21, 22, 23, 24, 25] (by decide +kernel) (by decide +kernel)
set_option maxRecDepth 20000 in
theorem gX6_room_X6_isStacker : GoodIn wsX6_room (wsV RX6 60 RX6 yX6_isStacker wsX6_isStacker) := goodIn_app (goodIn_of _ (by decide +kernel)) ggX6_room_X6_isStacker
set_option maxRecDepth 20000 in
theorem ggX6_room_X6_in : GoodIn wsX6_room wsX6_in := goodIn_r _ [9] (by decide +kernel) (by decide +kernel)
set_option maxRecDepth 20000 in
theorem gX6_room_X6_in : GoodIn wsX6_room (va_wsS RX6 41 yX6_in wsX6_in) := goodIn_app (goodIn_of _ (by decide +kernel)) ggX6_room_X6_in
theorem dX6_room_0 : decode cX6_room 0 = .ok (.aload_n 0, 1) := by decide +kernel
theorem dX6_room_1 : decode cX6_room 1 = .ok (.iload_n 1, 1) := by decide +kernel
theorem dX6_room_2 : decode cX6_room 2 = .ok (.invokevirtual 60, 3) := by decide +kernel
theorem dX6_room_5 : decode cX6_room 5 = .ok (.ifCond .ne 5, 3) := by decide +kernel
theorem dX6_room_8 : decode cX6_room 8 = .ok (.iconst (-1), 1) := by decide +kernel
theorem dX6_room_9 : decode cX6_room 9 = .ok (.ireturn, 1) := by decide +kernel
theorem dX6_room_10 : decode cX6_room 10 = .ok (.iload_n 2, 1) := by decide +kernel
theorem dX6_room_11 : decode cX6_room 11 = .ok (.iconst 1, 1) := by decide +kernel
theorem dX6_room_12 : decode cX6_room 12 = .ok (.bipush 99, 2) := by decide +kernel
theorem dX6_room_14 : decode cX6_room 14 = .ok (.invokestatic 41, 3) := by decide +kernel
theorem dX6_room_17 : decode cX6_room 17 = .ok (.ifCond .ne 6, 3) := by decide +kernel
theorem dX6_room_20 : decode cX6_room 20 = .ok (.bipush (-2), 2) := by decide +kernel
theorem dX6_room_22 : decode cX6_room 22 = .ok (.ireturn, 1) := by decide +kernel
theorem dX6_room_23 : decode cX6_room 23 = .ok (.aload_n 0, 1) := by decide +kernel
theorem dX6_room_24 : decode cX6_room 24 = .ok (.getfield 7, 3) := by decide +kernel
theorem dX6_room_27 : decode cX6_room 27 = .ok (.bipush 20, 2) := by decide +kernel
theorem dX6_room_29 : decode cX6_room 29 = .ok (.iload_n 1, 1) := by decide +kernel
theorem dX6_room_30 : decode cX6_room 30 = .ok (.iadd, 1) := by decide +kernel
theorem dX6_room_31 : decode cX6_room 31 = .ok (.iaload, 1) := by decide +kernel
theorem dX6_room_32 : decode cX6_room 32 = .ok (.istore_n 3, 1) := by decide +kernel
theorem dX6_room_33 : decode cX6_room 33 = .ok (.aload_n 0, 1) := by decide +kernel
theorem dX6_room_34 : decode cX6_room 34 = .ok (.getfield 7, 3) := by decide +kernel
theorem dX6_room_37 : decode cX6_room 37 = .ok (.bipush 20, 2) := by decide +kernel
theorem dX6_room_39 : decode cX6_room 39 = .ok (.iload_n 1, 1) := by decide +kernel
theorem dX6_room_40 : decode cX6_room 40 = .ok (.iadd, 1) := by decide +kernel
theorem dX6_room_41 : decode cX6_room 41 = .ok (.iload_n 2, 1) := by decide +kernel
theorem dX6_room_42 : decode cX6_room 42 = .ok (.iastore, 1) := by decide +kernel
theorem dX6_room_43 : decode cX6_room 43 = .ok (.iload_n 3, 1) := by decide +kernel
theorem dX6_room_44 : decode cX6_room 44 = .ok (.ireturn, 1) := by decide +kernel
set_option maxRecDepth 20000 in
theorem ggX6_code_X6_isPoint : GoodIn wsX6_code wsX6_isPoint := goodIn_r _ [5, 6, 7, 4, 8] (by decide +kernel) (by decide +kernel)
set_option maxRecDepth 20000 in
theorem gX6_code_X6_isPoint : GoodIn wsX6_code (va_wsS RX6 45 yX6_isPoint wsX6_isPoint) := goodIn_app (goodIn_of _ (by decide +kernel)) ggX6_code_X6_isPoint
set_option maxRecDepth 20000 in
theorem ggX6_code_X6_in : GoodIn wsX6_code wsX6_in := goodIn_r _ [8] (by decide +kernel) (by decide +kernel)
set_option maxRecDepth 20000 in
theorem gX6_code_X6_in : GoodIn wsX6_code (va_wsS RX6 41 yX6_in wsX6_in) := goodIn_app (goodIn_of _ (by decide +kernel)) ggX6_code_X6_in
theorem dX6_code_0 : decode cX6_code 0 = .ok (.iload_n 1, 1) := by decide +kernel
theorem dX6_code_1 : decode cX6_code 1 = .ok (.invokestatic 45, 3) := by decide +kernel
theorem dX6_code_4 : decode cX6_code 4 = .ok (.ifCond .ne 5, 3) := by decide +kernel
theorem dX6_code_7 : decode cX6_code 7 = .ok (.iconst (-1), 1) := by decide +kernel
theorem dX6_code_8 : decode cX6_code 8 = .ok (.ireturn, 1) := by decide +kernel
theorem dX6_code_9 : decode cX6_code 9 = .ok (.iload_n 2, 1) := by decide +kernel
theorem dX6_code_10 : decode cX6_code 10 = .ok (.iconst 0, 1) := by decide +kernel
theorem dX6_code_11 : decode cX6_code 11 = .ok (.bipush 63, 2) := by decide +kernel
theorem dX6_code_13 : decode cX6_code 13 = .ok (.invokestatic 41, 3) := by decide +kernel
theorem dX6_code_16 : decode cX6_code 16 = .ok (.ifCond .ne 6, 3) := by decide +kernel
theorem dX6_code_19 : decode cX6_code 19 = .ok (.bipush (-2), 2) := by decide +kernel
theorem dX6_code_21 : decode cX6_code 21 = .ok (.ireturn, 1) := by decide +kernel
theorem dX6_code_22 : decode cX6_code 22 = .ok (.aload_n 0, 1) := by decide +kernel
theorem dX6_code_23 : decode cX6_code 23 = .ok (.getfield 7, 3) := by decide +kernel
theorem dX6_code_26 : decode cX6_code 26 = .ok (.bipush 10, 2) := by decide +kernel
theorem dX6_code_28 : decode cX6_code 28 = .ok (.iload_n 1, 1) := by decide +kernel
theorem dX6_code_29 : decode cX6_code 29 = .ok (.iadd, 1) := by decide +kernel
theorem dX6_code_30 : decode cX6_code 30 = .ok (.iaload, 1) := by decide +kernel
theorem dX6_code_31 : decode cX6_code 31 = .ok (.istore_n 3, 1) := by decide +kernel
theorem dX6_code_32 : decode cX6_code 32 = .ok (.aload_n 0, 1) := by decide +kernel
theorem dX6_code_33 : decode cX6_code 33 = .ok (.getfield 7, 3) := by decide +kernel
theorem dX6_code_36 : decode cX6_code 36 = .ok (.bipush 10, 2) := by decide +kernel
theorem dX6_code_38 : decode cX6_code 38 = .ok (.iload_n 1, 1) := by decide +kernel
theorem dX6_code_39 : decode cX6_code 39 = .ok (.iadd, 1) := by decide +kernel
theorem dX6_code_40 : decode cX6_code 40 = .ok (.iload_n 2, 1) := by decide +kernel
theorem dX6_code_41 : decode cX6_code 41 = .ok (.iastore, 1) := by decide +kernel
theorem dX6_code_42 : decode cX6_code 42 = .ok (.iload_n 3, 1) := by decide +kernel
theorem dX6_code_43 : decode cX6_code 43 = .ok (.ireturn, 1) := by decide +kernel
theorem dX6_isUsed_0 : decode cX6_isUsed 0 = .ok (.iconst 0, 1) := by decide +kernel
theorem dX6_isUsed_1 : decode cX6_isUsed 1 = .ok (.istore_n 2, 1) := by decide +kernel
theorem dX6_isUsed_2 : decode cX6_isUsed 2 = .ok (.iconst 0, 1) := by decide +kernel
theorem dX6_isUsed_3 : decode cX6_isUsed 3 = .ok (.istore_n 3, 1) := by decide +kernel
theorem dX6_isUsed_4 : decode cX6_isUsed 4 = .ok (.iload_n 3, 1) := by decide +kernel
theorem dX6_isUsed_5 : decode cX6_isUsed 5 = .ok (.aload_n 0, 1) := by decide +kernel
theorem dX6_isUsed_6 : decode cX6_isUsed 6 = .ok (.getfield 7, 3) := by decide +kernel
theorem dX6_isUsed_9 : decode cX6_isUsed 9 = .ok (.bipush 25, 2) := by decide +kernel
theorem dX6_isUsed_11 : decode cX6_isUsed 11 = .ok (.iaload, 1) := by decide +kernel
theorem dX6_isUsed_12 : decode cX6_isUsed 12 = .ok (.if_icmp .ge 32, 3) := by decide +kernel
theorem dX6_isUsed_15 : decode cX6_isUsed 15 = .ok (.iload_n 2, 1) := by decide +kernel
theorem dX6_isUsed_16 : decode cX6_isUsed 16 = .ok (.ifCond .ne 16, 3) := by decide +kernel
theorem dX6_isUsed_19 : decode cX6_isUsed 19 = .ok (.aload_n 0, 1) := by decide +kernel
theorem dX6_isUsed_20 : decode cX6_isUsed 20 = .ok (.getfield 7, 3) := by decide +kernel
theorem dX6_isUsed_23 : decode cX6_isUsed 23 = .ok (.bipush 26, 2) := by decide +kernel
theorem dX6_isUsed_25 : decode cX6_isUsed 25 = .ok (.iload_n 3, 1) := by decide +kernel
theorem dX6_isUsed_26 : decode cX6_isUsed 26 = .ok (.iadd, 1) := by decide +kernel
theorem dX6_isUsed_27 : decode cX6_isUsed 27 = .ok (.iaload, 1) := by decide +kernel
theorem dX6_isUsed_28 : decode cX6_isUsed 28 = .ok (.iload_n 1, 1) := by decide +kernel
theorem dX6_isUsed_29 : decode cX6_isUsed 29 = .ok (.if_icmp .ne 7, 3) := by decide +kernel
theorem dX6_isUsed_32 : decode cX6_isUsed 32 = .ok (.iconst 1, 1) := by decide +kernel
theorem dX6_isUsed_33 : decode cX6_isUsed 33 = .ok (.goto 4, 3) := by decide +kernel
theorem dX6_isUsed_36 : decode cX6_isUsed 36 = .ok (.iconst 0, 1) := by decide +kernel
theorem dX6_isUsed_37 : decode cX6_isUsed 37 = .ok (.istore_n 2, 1) := by decide +kernel
theorem dX6_isUsed_38 : decode cX6_isUsed 38 = .ok (.iinc 3 1, 3) := by decide +kernel
theorem dX6_isUsed_41 : decode cX6_isUsed 41 = .ok (.goto (-37), 3) := by decide +kernel
theorem dX6_isUsed_44 : decode cX6_isUsed 44 = .ok (.iload_n 2, 1) := by decide +kernel
theorem dX6_isUsed_45 : decode cX6_isUsed 45 = .ok (.ireturn, 1) := by decide +kernel
set_option maxRecDepth 20000 in
theorem ggX6_dense_X6_isUsed : GoodIn wsX6_dense wsX6_isUsed := goodIn_r _ [6, 1, 7, 8, 9, 10, 11, 12, 13, 14, 15, 16, 17, 18, 19, 20, 21, 22] (by decide +kernel) (by decide +kernel)
set_option maxRecDepth 20000 in
theorem gX6_dense_X6_isUsed : GoodIn wsX6_dense (wsV RX6 63 RX6 yX6_isUsed wsX6_isUsed) := goodIn_app (goodIn_of _ (by decide +kernel)) ggX6_dense_X6_isUsed
theorem dX6_dense_0 : decode cX6_dense 0 = .ok (.iconst 0, 1) := by decide +kernel
theorem dX6_dense_1 : decode cX6_dense 1 = .ok (.istore_n 1, 1) := by decide +kernel
theorem dX6_dense_2 : decode cX6_dense 2 = .ok (.iconst 0, 1) := by decide +kernel
theorem dX6_dense_3 : decode cX6_dense 3 = .ok (.istore_n 2, 1) := by decide +kernel
theorem dX6_dense_4 : decode cX6_dense 4 = .ok (.iload_n 2, 1) := by decide +kernel
theorem dX6_dense_5 : decode cX6_dense 5 = .ok (.bipush 10, 2) := by decide +kernel
theorem dX6_dense_7 : decode cX6_dense 7 = .ok (.if_icmp .ge 44, 3) := by decide +kernel
theorem dX6_dense_10 : decode cX6_dense 10 = .ok (.aload_n 0, 1) := by decide +kernel
theorem dX6_dense_11 : decode cX6_dense 11 = .ok (.aload_n 0, 1) := by decide +kernel
theorem dX6_dense_12 : decode cX6_dense 12 = .ok (.getfield 7, 3) := by decide +kernel
theorem dX6_dense_15 : decode cX6_dense 15 = .ok (.iconst 0, 1) := by decide +kernel
theorem dX6_dense_16 : decode cX6_dense 16 = .ok (.iload_n 2, 1) := by decide +kernel
theorem dX6_dense_17 : decode cX6_dense 17 = .ok (.iadd, 1) := by decide +kernel
theorem dX6_dense_18 : decode cX6_dense 18 = .ok (.iaload, 1) := by decide +kernel
theorem dX6_dense_19 : decode cX6_dense 19 = .ok (.invokevirtual 63, 3) := by decide +kernel
theorem dX6_dense_22 : decode cX6_dense 22 = .ok (.ifCond .eq 23, 3) := by decide +kernel
theorem dX6_dense_25 : decode cX6_dense 25 = .ok (.aload_n 0, 1) := by decide +kernel
theorem dX6_dense_26 : decode cX6_dense 26 = .ok (.getfield 7, 3) := by decide +kernel
theorem dX6_dense_29 : decode cX6_dense 29 = .ok (.bipush 10, 2) := by decide +kernel
theorem dX6_dense_31 : decode cX6_dense 31 = .ok (.aload_n 0, 1) := by decide +kernel
theorem dX6_dense_32 : decode cX6_dense 32 = .ok (.getfield 7, 3) := by decide +kernel
theorem dX6_dense_35 : decode cX6_dense 35 = .ok (.iconst 0, 1) := by decide +kernel
theorem dX6_dense_36 : decode cX6_dense 36 = .ok (.iload_n 2, 1) := by decide +kernel
theorem dX6_dense_37 : decode cX6_dense 37 = .ok (.iadd, 1) := by decide +kernel
theorem dX6_dense_38 : decode cX6_dense 38 = .ok (.iaload, 1) := by decide +kernel
theorem dX6_dense_39 : decode cX6_dense 39 = .ok (.iadd, 1) := by decide +kernel
theorem dX6_dense_40 : decode cX6_dense 40 = .ok (.iload_n 1, 1) := by decide +kernel
theorem dX6_dense_41 : decode cX6_dense 41 = .ok (.iastore, 1) := by decide +kernel
theorem dX6_dense_42 : decode cX6_dense 42 = .ok (.iinc 1 1, 3) := by decide +kernel
theorem dX6_dense_45 : decode cX6_dense 45 = .ok (.iinc 2 1, 3) := by decide +kernel
theorem dX6_dense_48 : decode cX6_dense 48 = .ok (.goto (-44), 3) := by decide +kernel
theorem dX6_dense_51 : decode cX6_dense 51 = .ok (.iload_n 1, 1) := by decide +kernel
theorem dX6_dense_52 : decode cX6_dense 52 = .ok (.ireturn, 1) := by decide +kernel
set_option maxRecDepth 20000 in
theorem ggX6_of_X6_isLetter : GoodIn wsX6_of wsX6_isLetter := goodIn_r _ [6, 1, 7, 8, 5, 9, 10, 11, 12, 13, 14, 15, 16, 17, 18, 19, 20, 21, 22, 23, 24, 25] (by decide +kernel) (by decide +kernel)
set_option maxRecDepth 20000 in
theorem gX6_of_X6_isLetter : GoodIn wsX6_of (wsV RX6 49 RX6 yX6_isLetter wsX6_isLetter) := goodIn_app (goodIn_of _ (by decide +kernel)) ggX6_of_X6_isLetter
theorem dX6_of_0 : decode cX6_of 0 = .ok (.aload_n 0, 1) := by decide +kernel
theorem dX6_of_1 : decode cX6_of 1 = .ok (.iload_n 1, 1) := by decide +kernel
theorem dX6_of_2 : decode cX6_of 2 = .ok (.invokevirtual 49, 3) := by decide +kernel
theorem dX6_of_5 : decode cX6_of 5 = .ok (.ifCond .ne 5, 3) := by decide +kernel
theorem dX6_of_8 : decode cX6_of 8 = .ok (.iconst (-1), 1) := by decide +kernel
theorem dX6_of_9 : decode cX6_of 9 = .ok (.ireturn, 1) := by decide +kernel
theorem dX6_of_10 : decode cX6_of 10 = .ok (.iload_n 2, 1) := by decide +kernel
theorem dX6_of_11 : decode cX6_of 11 = .ok (.ifCond .ne 15, 3) := by decide +kernel
theorem dX6_of_14 : decode cX6_of 14 = .ok (.aload_n 0, 1) := by decide +kernel
theorem dX6_of_15 : decode cX6_of 15 = .ok (.getfield 7, 3) := by decide +kernel
theorem dX6_of_18 : decode cX6_of 18 = .ok (.bipush 26, 2) := by decide +kernel
theorem dX6_of_20 : decode cX6_of 20 = .ok (.iload_n 1, 1) := by decide +kernel
theorem dX6_of_21 : decode cX6_of 21 = .ok (.iadd, 1) := by decide +kernel
theorem dX6_of_22 : decode cX6_of 22 = .ok (.iaload, 1) := by decide +kernel
theorem dX6_of_23 : decode cX6_of 23 = .ok (.goto 39, 3) := by decide +kernel
theorem dX6_of_26 : decode cX6_of 26 = .ok (.iload_n 2, 1) := by decide +kernel
theorem dX6_of_27 : decode cX6_of 27 = .ok (.iconst 1, 1) := by decide +kernel
theorem dX6_of_28 : decode cX6_of 28 = .ok (.if_icmp .ne 15, 3) := by decide +kernel
theorem dX6_of_31 : decode cX6_of 31 = .ok (.aload_n 0, 1) := by decide +kernel
theorem dX6_of_32 : decode cX6_of 32 = .ok (.getfield 7, 3) := by decide +kernel
theorem dX6_of_35 : decode cX6_of 35 = .ok (.bipush 50, 2) := by decide +kernel
theorem dX6_of_37 : decode cX6_of 37 = .ok (.iload_n 1, 1) := by decide +kernel
theorem dX6_of_38 : decode cX6_of 38 = .ok (.iadd, 1) := by decide +kernel
theorem dX6_of_39 : decode cX6_of 39 = .ok (.iaload, 1) := by decide +kernel
theorem dX6_of_40 : decode cX6_of 40 = .ok (.goto 22, 3) := by decide +kernel
theorem dX6_of_43 : decode cX6_of 43 = .ok (.iload_n 2, 1) := by decide +kernel
theorem dX6_of_44 : decode cX6_of 44 = .ok (.iconst 2, 1) := by decide +kernel
theorem dX6_of_45 : decode cX6_of 45 = .ok (.if_icmp .ne 15, 3) := by decide +kernel
theorem dX6_of_48 : decode cX6_of 48 = .ok (.aload_n 0, 1) := by decide +kernel
theorem dX6_of_49 : decode cX6_of 49 = .ok (.getfield 7, 3) := by decide +kernel
theorem dX6_of_52 : decode cX6_of 52 = .ok (.bipush 74, 2) := by decide +kernel
theorem dX6_of_54 : decode cX6_of 54 = .ok (.iload_n 1, 1) := by decide +kernel
theorem dX6_of_55 : decode cX6_of 55 = .ok (.iadd, 1) := by decide +kernel
theorem dX6_of_56 : decode cX6_of 56 = .ok (.iaload, 1) := by decide +kernel
theorem dX6_of_57 : decode cX6_of 57 = .ok (.goto 5, 3) := by decide +kernel
theorem dX6_of_60 : decode cX6_of 60 = .ok (.bipush (-2), 2) := by decide +kernel
theorem dX6_of_62 : decode cX6_of 62 = .ok (.ireturn, 1) := by decide +kernel
theorem dX6_figure_0 : decode cX6_figure 0 = .ok (.iload_n 1, 1) := by decide +kernel
theorem dX6_figure_1 : decode cX6_figure 1 = .ok (.istore_n 3, 1) := by decide +kernel
theorem dX6_figure_2 : decode cX6_figure 2 = .ok (.iconst 1, 1) := by decide +kernel
theorem dX6_figure_3 : decode cX6_figure 3 = .ok (.istore 4, 2) := by decide +kernel
theorem dX6_figure_5 : decode cX6_figure 5 = .ok (.iload 4, 2) := by decide +kernel
theorem dX6_figure_7 : decode cX6_figure 7 = .ok (.iload_n 2, 1) := by decide +kernel
theorem dX6_figure_8 : decode cX6_figure 8 = .ok (.if_icmp .ge 19, 3) := by decide +kernel
theorem dX6_figure_11 : decode cX6_figure 11 = .ok (.iload_n 3, 1) := by decide +kernel
theorem dX6_figure_12 : decode cX6_figure 12 = .ok (.aload_n 0, 1) := by decide +kernel
theorem dX6_figure_13 : decode cX6_figure 13 = .ok (.getfield 7, 3) := by decide +kernel
theorem dX6_figure_16 : decode cX6_figure 16 = .ok (.bipush 24, 2) := by decide +kernel
theorem dX6_figure_18 : decode cX6_figure 18 = .ok (.iaload, 1) := by decide +kernel
theorem dX6_figure_19 : decode cX6_figure 19 = .ok (.idiv, 1) := by decide +kernel
theorem dX6_figure_20 : decode cX6_figure 20 = .ok (.istore_n 3, 1) := by decide +kernel
theorem dX6_figure_21 : decode cX6_figure 21 = .ok (.iinc 4 1, 3) := by decide +kernel
theorem dX6_figure_24 : decode cX6_figure 24 = .ok (.goto (-19), 3) := by decide +kernel
theorem dX6_figure_27 : decode cX6_figure 27 = .ok (.iload_n 3, 1) := by decide +kernel
theorem dX6_figure_28 : decode cX6_figure 28 = .ok (.aload_n 0, 1) := by decide +kernel
theorem dX6_figure_29 : decode cX6_figure 29 = .ok (.getfield 7, 3) := by decide +kernel
theorem dX6_figure_32 : decode cX6_figure 32 = .ok (.bipush 24, 2) := by decide +kernel
theorem dX6_figure_34 : decode cX6_figure 34 = .ok (.iaload, 1) := by decide +kernel
theorem dX6_figure_35 : decode cX6_figure 35 = .ok (.irem, 1) := by decide +kernel
theorem dX6_figure_36 : decode cX6_figure 36 = .ok (.ireturn, 1) := by decide +kernel
set_option maxRecDepth 20000 in
theorem ggX6_place_X6_figure : GoodIn wsX6_place wsX6_figure := goodIn_r _ [7, 1, 8, 9, 10, 11, 12, 13, 14, 15, 16, 17, 18, 19, 20, 21, 22, 23] (by decide +kernel) (by decide +kernel)
set_option maxRecDepth 20000 in
theorem gX6_place_X6_figure : GoodIn wsX6_place (wsV RX6 66 RX6 yX6_figure wsX6_figure) := goodIn_app (goodIn_of _ (by decide +kernel)) ggX6_place_X6_figure
theorem dX6_place_0 : decode cX6_place 0 = .ok (.aload_n 0, 1) := by decide +kernel
theorem dX6_place_1 : decode cX6_place 1 = .ok (.getfield 7, 3) := by decide +kernel
theorem dX6_place_4 : decode cX6_place 4 = .ok (.bipush 74, 2) := by decide +kernel
theorem dX6_place_6 : decode cX6_place 6 = .ok (.iload_n 1, 1) := by decide +kernel
theorem dX6_place_7 : decode cX6_place 7 = .ok (.iadd, 1) := by decide +kernel
theorem dX6_place_8 : decode cX6_place 8 = .ok (.iaload, 1) := by decide +kernel
theorem dX6_place_9 : decode cX6_place 9 = .ok (.iconst 1, 1) := by decide +kernel
theorem dX6_place_10 : decode cX6_place 10 = .ok (.if_icmp .ne 6, 3) := by decide +kernel
theorem dX6_place_13 : decode cX6_place 13 = .ok (.bipush (-6), 2) := by decide +kernel
theorem dX6_place_15 : decode cX6_place 15 = .ok (.ireturn, 1) := by decide +kernel
theorem dX6_place_16 : decode cX6_place 16 = .ok (.aload_n 0, 1) := by decide +kernel
theorem dX6_place_17 : decode cX6_place 17 = .ok (.aload_n 0, 1) := by decide +kernel
theorem dX6_place_18 : decode cX6_place 18 = .ok (.getfield 7, 3) := by decide +kernel
theorem dX6_place_21 : decode cX6_place 21 = .ok (.bipush 10, 2) := by decide +kernel
theorem dX6_place_23 : decode cX6_place 23 = .ok (.aload_n 0, 1) := by decide +kernel
theorem dX6_place_24 : decode cX6_place 24 = .ok (.getfield 7, 3) := by decide +kernel
theorem dX6_place_27 : decode cX6_place 27 = .ok (.bipush 26, 2) := by decide +kernel
theorem dX6_place_29 : decode cX6_place 29 = .ok (.iload_n 1, 1) := by decide +kernel
theorem dX6_place_30 : decode cX6_place 30 = .ok (.iadd, 1) := by decide +kernel
theorem dX6_place_31 : decode cX6_place 31 = .ok (.iaload, 1) := by decide +kernel
theorem dX6_place_32 : decode cX6_place 32 = .ok (.iadd, 1) := by decide +kernel
theorem dX6_place_33 : decode cX6_place 33 = .ok (.iaload, 1) := by decide +kernel
theorem dX6_place_34 : decode cX6_place 34 = .ok (.iload_n 2, 1) := by decide +kernel
theorem dX6_place_35 : decode cX6_place 35 = .ok (.invokevirtual 66, 3) := by decide +kernel
theorem dX6_place_38 : decode cX6_place 38 = .ok (.istore_n 3, 1) := by decide +kernel
theorem dX6_place_39 : decode cX6_place 39 = .ok (.aload_n 0, 1) := by decide +kernel
theorem dX6_place_40 : decode cX6_place 40 = .ok (.getfield 32, 3) := by decide +kernel
theorem dX6_place_43 : decode cX6_place 43 = .ok (.iload_n 3, 1) := by decide +kernel
theorem dX6_place_44 : decode cX6_place 44 = .ok (.iaload, 1) := by decide +kernel
theorem dX6_place_45 : decode cX6_place 45 = .ok (.aload_n 0, 1) := by decide +kernel
theorem dX6_place_46 : decode cX6_place 46 = .ok (.getfield 7, 3) := by decide +kernel
theorem dX6_place_49 : decode cX6_place 49 = .ok (.bipush 50, 2) := by decide +kernel
theorem dX6_place_51 : decode cX6_place 51 = .ok (.iload_n 1, 1) := by decide +kernel
theorem dX6_place_52 : decode cX6_place 52 = .ok (.iadd, 1) := by decide +kernel
theorem dX6_place_53 : decode cX6_place 53 = .ok (.iaload, 1) := by decide +kernel
theorem dX6_place_54 : decode cX6_place 54 = .ok (.iadd, 1) := by decide +kernel
theorem dX6_place_55 : decode cX6_place 55 = .ok (.aload_n 0, 1) := by decide +kernel
theorem dX6_place_56 : decode cX6_place 56 = .ok (.getfield 7, 3) := by decide +kernel
theorem dX6_place_59 : decode cX6_place 59 = .ok (.bipush 20, 2) := by decide +kernel
theorem dX6_place_61 : decode cX6_place 61 = .ok (.iload_n 3, 1) := by decide +kernel
theorem dX6_place_62 : decode cX6_place 62 = .ok (.iadd, 1) := by decide +kernel
theorem dX6_place_63 : decode cX6_place 63 = .ok (.iaload, 1) := by decide +kernel
theorem dX6_place_64 : decode cX6_place 64 = .ok (.if_icmp .le 6, 3) := by decide +kernel
theorem dX6_place_67 : decode cX6_place 67 = .ok (.bipush (-6), 2) := by decide +kernel
theorem dX6_place_69 : decode cX6_place 69 = .ok (.ireturn, 1) := by decide +kernel
theorem dX6_place_70 : decode cX6_place 70 = .ok (.aload_n 0, 1) := by decide +kernel
theorem dX6_place_71 : decode cX6_place 71 = .ok (.getfield 32, 3) := by decide +kernel
theorem dX6_place_74 : decode cX6_place 74 = .ok (.iload_n 3, 1) := by decide +kernel
theorem dX6_place_75 : decode cX6_place 75 = .ok (.dup2, 1) := by decide +kernel
theorem dX6_place_76 : decode cX6_place 76 = .ok (.iaload, 1) := by decide +kernel
theorem dX6_place_77 : decode cX6_place 77 = .ok (.aload_n 0, 1) := by decide +kernel
theorem dX6_place_78 : decode cX6_place 78 = .ok (.getfield 7, 3) := by decide +kernel
theorem dX6_place_81 : decode cX6_place 81 = .ok (.bipush 50, 2) := by decide +kernel
theorem dX6_place_83 : decode cX6_place 83 = .ok (.iload_n 1, 1) := by decide +kernel
theorem dX6_place_84 : decode cX6_place 84 = .ok (.iadd, 1) := by decide +kernel
theorem dX6_place_85 : decode cX6_place 85 = .ok (.iaload, 1) := by decide +kernel
theorem dX6_place_86 : decode cX6_place 86 = .ok (.iadd, 1) := by decide +kernel
theorem dX6_place_87 : decode cX6_place 87 = .ok (.iastore, 1) := by decide +kernel
theorem dX6_place_88 : decode cX6_place 88 = .ok (.iload_n 3, 1) := by decide +kernel
theorem dX6_place_89 : decode cX6_place 89 = .ok (.ireturn, 1) := by decide +kernel
set_option maxRecDepth 20000 in
theorem ggX6_pass_X6_place : GoodIn wsX6_pass wsX6_place := goodIn_r _ [13, 7, 1, 14, 15, 16, 12, 17, 18, 19, 20, 21, 22, 23, 24, 25, 26, 27, 28, 29, 30, 31, 32, 33] (by decide +kernel) (by decide +kernel)
set_option maxRecDepth 20000 in
theorem gX6_pass_X6_place : GoodIn wsX6_pass (wsV RX6 74 RX6 yX6_place wsX6_place) := goodIn_app (goodIn_of _ (by decide +kernel)) ggX6_pass_X6_place
theorem dX6_pass_0 : decode cX6_pass 0 = .ok (.iconst 0, 1) := by decide +kernel
theorem dX6_pass_1 : decode cX6_pass 1 = .ok (.istore_n 2, 1) := by decide +kernel
theorem dX6_pass_2 : decode cX6_pass 2 = .ok (.iload_n 2, 1) := by decide +kernel
theorem dX6_pass_3 : decode cX6_pass 3 = .ok (.iconst 4, 1) := by decide +kernel
theorem dX6_pass_4 : decode cX6_pass 4 = .ok (.if_icmp .ge 16, 3) := by decide +kernel
theorem dX6_pass_7 : decode cX6_pass 7 = .ok (.aload_n 0, 1) := by decide +kernel
theorem dX6_pass_8 : decode cX6_pass 8 = .ok (.getfield 32, 3) := by decide +kernel
theorem dX6_pass_11 : decode cX6_pass 11 = .ok (.iload_n 2, 1) := by decide +kernel
theorem dX6_pass_12 : decode cX6_pass 12 = .ok (.iconst 0, 1) := by decide +kernel
theorem dX6_pass_13 : decode cX6_pass 13 = .ok (.iastore, 1) := by decide +kernel
theorem dX6_pass_14 : decode cX6_pass 14 = .ok (.iinc 2 1, 3) := by decide +kernel
theorem dX6_pass_17 : decode cX6_pass 17 = .ok (.goto (-15), 3) := by decide +kernel
theorem dX6_pass_20 : decode cX6_pass 20 = .ok (.iconst 0, 1) := by decide +kernel
theorem dX6_pass_21 : decode cX6_pass 21 = .ok (.istore_n 2, 1) := by decide +kernel
theorem dX6_pass_22 : decode cX6_pass 22 = .ok (.iload_n 2, 1) := by decide +kernel
theorem dX6_pass_23 : decode cX6_pass 23 = .ok (.aload_n 0, 1) := by decide +kernel
theorem dX6_pass_24 : decode cX6_pass 24 = .ok (.getfield 70, 3) := by decide +kernel
theorem dX6_pass_27 : decode cX6_pass 27 = .ok (.if_icmp .ge 48, 3) := by decide +kernel
theorem dX6_pass_30 : decode cX6_pass 30 = .ok (.aload_n 0, 1) := by decide +kernel
theorem dX6_pass_31 : decode cX6_pass 31 = .ok (.getfield 20, 3) := by decide +kernel
theorem dX6_pass_34 : decode cX6_pass 34 = .ok (.iload_n 2, 1) := by decide +kernel
theorem dX6_pass_35 : decode cX6_pass 35 = .ok (.iaload, 1) := by decide +kernel
theorem dX6_pass_36 : decode cX6_pass 36 = .ok (.istore_n 3, 1) := by decide +kernel
theorem dX6_pass_37 : decode cX6_pass 37 = .ok (.aload_n 0, 1) := by decide +kernel
theorem dX6_pass_38 : decode cX6_pass 38 = .ok (.getfield 26, 3) := by decide +kernel
theorem dX6_pass_41 : decode cX6_pass 41 = .ok (.iload_n 3, 1) := by decide +kernel
theorem dX6_pass_42 : decode cX6_pass 42 = .ok (.aload_n 0, 1) := by decide +kernel
theorem dX6_pass_43 : decode cX6_pass 43 = .ok (.iload_n 3, 1) := by decide +kernel
theorem dX6_pass_44 : decode cX6_pass 44 = .ok (.iload_n 1, 1) := by decide +kernel
theorem dX6_pass_45 : decode cX6_pass 45 = .ok (.invokevirtual 74, 3) := by decide +kernel
theorem dX6_pass_48 : decode cX6_pass 48 = .ok (.iastore, 1) := by decide +kernel
theorem dX6_pass_49 : decode cX6_pass 49 = .ok (.aload_n 0, 1) := by decide +kernel
theorem dX6_pass_50 : decode cX6_pass 50 = .ok (.getfield 29, 3) := by decide +kernel
theorem dX6_pass_53 : decode cX6_pass 53 = .ok (.iload_n 3, 1) := by decide +kernel
theorem dX6_pass_54 : decode cX6_pass 54 = .ok (.aload_n 0, 1) := by decide +kernel
theorem dX6_pass_55 : decode cX6_pass 55 = .ok (.getfield 26, 3) := by decide +kernel
theorem dX6_pass_58 : decode cX6_pass 58 = .ok (.iload_n 3, 1) := by decide +kernel
theorem dX6_pass_59 : decode cX6_pass 59 = .ok (.iaload, 1) := by decide +kernel
theorem dX6_pass_60 : decode cX6_pass 60 = .ok (.ifCond .ge 7, 3) := by decide +kernel
theorem dX6_pass_63 : decode cX6_pass 63 = .ok (.iload_n 1, 1) := by decide +kernel
theorem dX6_pass_64 : decode cX6_pass 64 = .ok (.goto 4, 3) := by decide +kernel
theorem dX6_pass_67 : decode cX6_pass 67 = .ok (.iconst 0, 1) := by decide +kernel
theorem dX6_pass_68 : decode cX6_pass 68 = .ok (.iastore, 1) := by decide +kernel
theorem dX6_pass_69 : decode cX6_pass 69 = .ok (.iinc 2 1, 3) := by decide +kernel
theorem dX6_pass_72 : decode cX6_pass 72 = .ok (.goto (-50), 3) := by decide +kernel
theorem dX6_pass_75 : decode cX6_pass 75 = .ok (.aload_n 0, 1) := by decide +kernel
theorem dX6_pass_76 : decode cX6_pass 76 = .ok (.iconst 0, 1) := by decide +kernel
theorem dX6_pass_77 : decode cX6_pass 77 = .ok (.putfield 77, 3) := by decide +kernel
theorem dX6_pass_80 : decode cX6_pass 80 = .ok (.iconst 0, 1) := by decide +kernel
theorem dX6_pass_81 : decode cX6_pass 81 = .ok (.istore_n 2, 1) := by decide +kernel
theorem dX6_pass_82 : decode cX6_pass 82 = .ok (.iload_n 2, 1) := by decide +kernel
theorem dX6_pass_83 : decode cX6_pass 83 = .ok (.aload_n 0, 1) := by decide +kernel
theorem dX6_pass_84 : decode cX6_pass 84 = .ok (.getfield 7, 3) := by decide +kernel
theorem dX6_pass_87 : decode cX6_pass 87 = .ok (.bipush 24, 2) := by decide +kernel
theorem dX6_pass_89 : decode cX6_pass 89 = .ok (.iaload, 1) := by decide +kernel
theorem dX6_pass_90 : decode cX6_pass 90 = .ok (.if_icmp .ge 65, 3) := by decide +kernel
theorem dX6_pass_93 : decode cX6_pass 93 = .ok (.iconst 0, 1) := by decide +kernel
theorem dX6_pass_94 : decode cX6_pass 94 = .ok (.istore_n 3, 1) := by decide +kernel
theorem dX6_pass_95 : decode cX6_pass 95 = .ok (.iload_n 3, 1) := by decide +kernel
theorem dX6_pass_96 : decode cX6_pass 96 = .ok (.aload_n 0, 1) := by decide +kernel
theorem dX6_pass_97 : decode cX6_pass 97 = .ok (.getfield 70, 3) := by decide +kernel
theorem dX6_pass_100 : decode cX6_pass 100 = .ok (.if_icmp .ge 49, 3) := by decide +kernel
theorem dX6_pass_103 : decode cX6_pass 103 = .ok (.aload_n 0, 1) := by decide +kernel
theorem dX6_pass_104 : decode cX6_pass 104 = .ok (.getfield 26, 3) := by decide +kernel
theorem dX6_pass_107 : decode cX6_pass 107 = .ok (.aload_n 0, 1) := by decide +kernel
theorem dX6_pass_108 : decode cX6_pass 108 = .ok (.getfield 20, 3) := by decide +kernel
theorem dX6_pass_111 : decode cX6_pass 111 = .ok (.iload_n 3, 1) := by decide +kernel
theorem dX6_pass_112 : decode cX6_pass 112 = .ok (.iaload, 1) := by decide +kernel
theorem dX6_pass_113 : decode cX6_pass 113 = .ok (.iaload, 1) := by decide +kernel
theorem dX6_pass_114 : decode cX6_pass 114 = .ok (.iload_n 2, 1) := by decide +kernel
theorem dX6_pass_115 : decode cX6_pass 115 = .ok (.if_icmp .ne 28, 3) := by decide +kernel
theorem dX6_pass_118 : decode cX6_pass 118 = .ok (.aload_n 0, 1) := by decide +kernel
theorem dX6_pass_119 : decode cX6_pass 119 = .ok (.getfield 23, 3) := by decide +kernel
theorem dX6_pass_122 : decode cX6_pass 122 = .ok (.aload_n 0, 1) := by decide +kernel
theorem dX6_pass_123 : decode cX6_pass 123 = .ok (.getfield 77, 3) := by decide +kernel
theorem dX6_pass_126 : decode cX6_pass 126 = .ok (.aload_n 0, 1) := by decide +kernel
theorem dX6_pass_127 : decode cX6_pass 127 = .ok (.getfield 20, 3) := by decide +kernel
theorem dX6_pass_130 : decode cX6_pass 130 = .ok (.iload_n 3, 1) := by decide +kernel
theorem dX6_pass_131 : decode cX6_pass 131 = .ok (.iaload, 1) := by decide +kernel
theorem dX6_pass_132 : decode cX6_pass 132 = .ok (.iastore, 1) := by decide +kernel
theorem dX6_pass_133 : decode cX6_pass 133 = .ok (.aload_n 0, 1) := by decide +kernel
theorem dX6_pass_134 : decode cX6_pass 134 = .ok (.dup, 1) := by decide +kernel
theorem dX6_pass_135 : decode cX6_pass 135 = .ok (.getfield 77, 3) := by decide +kernel
theorem dX6_pass_138 : decode cX6_pass 138 = .ok (.iconst 1, 1) := by decide +kernel
theorem dX6_pass_139 : decode cX6_pass 139 = .ok (.iadd, 1) := by decide +kernel
theorem dX6_pass_140 : decode cX6_pass 140 = .ok (.putfield 77, 3) := by decide +kernel
theorem dX6_pass_143 : decode cX6_pass 143 = .ok (.iinc 3 1, 3) := by decide +kernel
theorem dX6_pass_146 : decode cX6_pass 146 = .ok (.goto (-51), 3) := by decide +kernel
theorem dX6_pass_149 : decode cX6_pass 149 = .ok (.iinc 2 1, 3) := by decide +kernel
theorem dX6_pass_152 : decode cX6_pass 152 = .ok (.goto (-70), 3) := by decide +kernel
theorem dX6_pass_155 : decode cX6_pass 155 = .ok (.iconst 0, 1) := by decide +kernel
theorem dX6_pass_156 : decode cX6_pass 156 = .ok (.istore_n 2, 1) := by decide +kernel
theorem dX6_pass_157 : decode cX6_pass 157 = .ok (.iload_n 2, 1) := by decide +kernel
theorem dX6_pass_158 : decode cX6_pass 158 = .ok (.aload_n 0, 1) := by decide +kernel
theorem dX6_pass_159 : decode cX6_pass 159 = .ok (.getfield 77, 3) := by decide +kernel
theorem dX6_pass_162 : decode cX6_pass 162 = .ok (.if_icmp .ge 21, 3) := by decide +kernel
theorem dX6_pass_165 : decode cX6_pass 165 = .ok (.aload_n 0, 1) := by decide +kernel
theorem dX6_pass_166 : decode cX6_pass 166 = .ok (.getfield 20, 3) := by decide +kernel
theorem dX6_pass_169 : decode cX6_pass 169 = .ok (.iload_n 2, 1) := by decide +kernel
theorem dX6_pass_170 : decode cX6_pass 170 = .ok (.aload_n 0, 1) := by decide +kernel
theorem dX6_pass_171 : decode cX6_pass 171 = .ok (.getfield 23, 3) := by decide +kernel
theorem dX6_pass_174 : decode cX6_pass 174 = .ok (.iload_n 2, 1) := by decide +kernel
theorem dX6_pass_175 : decode cX6_pass 175 = .ok (.iaload, 1) := by decide +kernel
theorem dX6_pass_176 : decode cX6_pass 176 = .ok (.iastore, 1) := by decide +kernel
theorem dX6_pass_177 : decode cX6_pass 177 = .ok (.iinc 2 1, 3) := by decide +kernel
theorem dX6_pass_180 : decode cX6_pass 180 = .ok (.goto (-23), 3) := by decide +kernel
theorem dX6_pass_183 : decode cX6_pass 183 = .ok (.aload_n 0, 1) := by decide +kernel
theorem dX6_pass_184 : decode cX6_pass 184 = .ok (.aload_n 0, 1) := by decide +kernel
theorem dX6_pass_185 : decode cX6_pass 185 = .ok (.getfield 77, 3) := by decide +kernel
theorem dX6_pass_188 : decode cX6_pass 188 = .ok (.putfield 70, 3) := by decide +kernel
theorem dX6_pass_191 : decode cX6_pass 191 = .ok (.return_, 1) := by decide +kernel
set_option maxRecDepth 20000 in
theorem ggX6_goRun_X6_pass : GoodIn wsX6_goRun wsX6_pass := goodIn_r _ [8, 9, 2, 3, 10, 11, 12, 1, 13, 14, 15, 16, 7, 17, 18, 19, 20, 21, 22, 23, 24, 25, 26, 27, 28, 29, 30, 31, 32, 33, 34, 35, 36, 37] (by decide +kernel) (by decide +kernel)
set_option maxRecDepth 20000 in
theorem gX6_goRun_X6_pass : GoodIn wsX6_goRun (wsV RX6 80 RX6 yX6_pass wsX6_pass) := goodIn_app (goodIn_of _ (by decide +kernel)) ggX6_goRun_X6_pass
theorem dX6_goRun_0 : decode cX6_goRun 0 = .ok (.aload_n 0, 1) := by decide +kernel
theorem dX6_goRun_1 : decode cX6_goRun 1 = .ok (.aload_n 0, 1) := by decide +kernel
theorem dX6_goRun_2 : decode cX6_goRun 2 = .ok (.getfield 7, 3) := by decide +kernel
theorem dX6_goRun_5 : decode cX6_goRun 5 = .ok (.bipush 25, 2) := by decide +kernel
theorem dX6_goRun_7 : decode cX6_goRun 7 = .ok (.iaload, 1) := by decide +kernel
theorem dX6_goRun_8 : decode cX6_goRun 8 = .ok (.putfield 70, 3) := by decide +kernel
theorem dX6_goRun_11 : decode cX6_goRun 11 = .ok (.iconst 0, 1) := by decide +kernel
theorem dX6_goRun_12 : decode cX6_goRun 12 = .ok (.istore_n 2, 1) := by decide +kernel
theorem dX6_goRun_13 : decode cX6_goRun 13 = .ok (.iload_n 2, 1) := by decide +kernel
theorem dX6_goRun_14 : decode cX6_goRun 14 = .ok (.aload_n 0, 1) := by decide +kernel
theorem dX6_goRun_15 : decode cX6_goRun 15 = .ok (.getfield 70, 3) := by decide +kernel
theorem dX6_goRun_18 : decode cX6_goRun 18 = .ok (.if_icmp .ge 16, 3) := by decide +kernel
theorem dX6_goRun_21 : decode cX6_goRun 21 = .ok (.aload_n 0, 1) := by decide +kernel
theorem dX6_goRun_22 : decode cX6_goRun 22 = .ok (.getfield 20, 3) := by decide +kernel
theorem dX6_goRun_25 : decode cX6_goRun 25 = .ok (.iload_n 2, 1) := by decide +kernel
theorem dX6_goRun_26 : decode cX6_goRun 26 = .ok (.iload_n 2, 1) := by decide +kernel
theorem dX6_goRun_27 : decode cX6_goRun 27 = .ok (.iastore, 1) := by decide +kernel
theorem dX6_goRun_28 : decode cX6_goRun 28 = .ok (.iinc 2 1, 3) := by decide +kernel
theorem dX6_goRun_31 : decode cX6_goRun 31 = .ok (.goto (-18), 3) := by decide +kernel
theorem dX6_goRun_34 : decode cX6_goRun 34 = .ok (.iconst 1, 1) := by decide +kernel
theorem dX6_goRun_35 : decode cX6_goRun 35 = .ok (.istore_n 2, 1) := by decide +kernel
theorem dX6_goRun_36 : decode cX6_goRun 36 = .ok (.iload_n 2, 1) := by decide +kernel
theorem dX6_goRun_37 : decode cX6_goRun 37 = .ok (.iload_n 1, 1) := by decide +kernel
theorem dX6_goRun_38 : decode cX6_goRun 38 = .ok (.if_icmp .gt 14, 3) := by decide +kernel
theorem dX6_goRun_41 : decode cX6_goRun 41 = .ok (.aload_n 0, 1) := by decide +kernel
theorem dX6_goRun_42 : decode cX6_goRun 42 = .ok (.iload_n 2, 1) := by decide +kernel
theorem dX6_goRun_43 : decode cX6_goRun 43 = .ok (.invokevirtual 80, 3) := by decide +kernel
theorem dX6_goRun_46 : decode cX6_goRun 46 = .ok (.iinc 2 1, 3) := by decide +kernel
theorem dX6_goRun_49 : decode cX6_goRun 49 = .ok (.goto (-13), 3) := by decide +kernel
theorem dX6_goRun_52 : decode cX6_goRun 52 = .ok (.return_, 1) := by decide +kernel
set_option maxRecDepth 20000 in
theorem ggX6_wrong_X6_placeOf : GoodIn wsX6_wrong wsX6_placeOf := goodIn_r _ [8, 2, 9, 10, 11, 12, 13, 14, 15, 16, 17, 18, 19, 20, 21, 22, 23, 24] (by decide +kernel) (by decide +kernel)
set_option maxRecDepth 20000 in
theorem gX6_wrong_X6_placeOf : GoodIn wsX6_wrong (wsV RX6 56 RX6 yX6_placeOf wsX6_placeOf) := goodIn_app (goodIn_of _ (by decide +kernel)) ggX6_wrong_X6_placeOf
theorem dX6_wrong_0 : decode cX6_wrong 0 = .ok (.iconst 0, 1) := by decide +kernel
theorem dX6_wrong_1 : decode cX6_wrong 1 = .ok (.istore_n 1, 1) := by decide +kernel
theorem dX6_wrong_2 : decode cX6_wrong 2 = .ok (.iconst 0, 1) := by decide +kernel
theorem dX6_wrong_3 : decode cX6_wrong 3 = .ok (.istore_n 2, 1) := by decide +kernel
theorem dX6_wrong_4 : decode cX6_wrong 4 = .ok (.iload_n 2, 1) := by decide +kernel
theorem dX6_wrong_5 : decode cX6_wrong 5 = .ok (.aload_n 0, 1) := by decide +kernel
theorem dX6_wrong_6 : decode cX6_wrong 6 = .ok (.getfield 70, 3) := by decide +kernel
theorem dX6_wrong_9 : decode cX6_wrong 9 = .ok (.if_icmp .ge 74, 3) := by decide +kernel
theorem dX6_wrong_12 : decode cX6_wrong 12 = .ok (.iload_n 2, 1) := by decide +kernel
theorem dX6_wrong_13 : decode cX6_wrong 13 = .ok (.iconst 1, 1) := by decide +kernel
theorem dX6_wrong_14 : decode cX6_wrong 14 = .ok (.iadd, 1) := by decide +kernel
theorem dX6_wrong_15 : decode cX6_wrong 15 = .ok (.istore_n 3, 1) := by decide +kernel
theorem dX6_wrong_16 : decode cX6_wrong 16 = .ok (.iload_n 3, 1) := by decide +kernel
theorem dX6_wrong_17 : decode cX6_wrong 17 = .ok (.aload_n 0, 1) := by decide +kernel
theorem dX6_wrong_18 : decode cX6_wrong 18 = .ok (.getfield 70, 3) := by decide +kernel
theorem dX6_wrong_21 : decode cX6_wrong 21 = .ok (.if_icmp .ge 56, 3) := by decide +kernel
theorem dX6_wrong_24 : decode cX6_wrong 24 = .ok (.iload_n 1, 1) := by decide +kernel
theorem dX6_wrong_25 : decode cX6_wrong 25 = .ok (.aload_n 0, 1) := by decide +kernel
theorem dX6_wrong_26 : decode cX6_wrong 26 = .ok (.aload_n 0, 1) := by decide +kernel
theorem dX6_wrong_27 : decode cX6_wrong 27 = .ok (.getfield 7, 3) := by decide +kernel
theorem dX6_wrong_30 : decode cX6_wrong 30 = .ok (.bipush 26, 2) := by decide +kernel
theorem dX6_wrong_32 : decode cX6_wrong 32 = .ok (.aload_n 0, 1) := by decide +kernel
theorem dX6_wrong_33 : decode cX6_wrong 33 = .ok (.getfield 20, 3) := by decide +kernel
theorem dX6_wrong_36 : decode cX6_wrong 36 = .ok (.iload_n 3, 1) := by decide +kernel
theorem dX6_wrong_37 : decode cX6_wrong 37 = .ok (.iaload, 1) := by decide +kernel
theorem dX6_wrong_38 : decode cX6_wrong 38 = .ok (.iadd, 1) := by decide +kernel
theorem dX6_wrong_39 : decode cX6_wrong 39 = .ok (.iaload, 1) := by decide +kernel
theorem dX6_wrong_40 : decode cX6_wrong 40 = .ok (.invokevirtual 56, 3) := by decide +kernel
theorem dX6_wrong_43 : decode cX6_wrong 43 = .ok (.aload_n 0, 1) := by decide +kernel
theorem dX6_wrong_44 : decode cX6_wrong 44 = .ok (.aload_n 0, 1) := by decide +kernel
theorem dX6_wrong_45 : decode cX6_wrong 45 = .ok (.getfield 7, 3) := by decide +kernel
theorem dX6_wrong_48 : decode cX6_wrong 48 = .ok (.bipush 26, 2) := by decide +kernel
theorem dX6_wrong_50 : decode cX6_wrong 50 = .ok (.aload_n 0, 1) := by decide +kernel
theorem dX6_wrong_51 : decode cX6_wrong 51 = .ok (.getfield 20, 3) := by decide +kernel
theorem dX6_wrong_54 : decode cX6_wrong 54 = .ok (.iload_n 2, 1) := by decide +kernel
theorem dX6_wrong_55 : decode cX6_wrong 55 = .ok (.iaload, 1) := by decide +kernel
theorem dX6_wrong_56 : decode cX6_wrong 56 = .ok (.iadd, 1) := by decide +kernel
theorem dX6_wrong_57 : decode cX6_wrong 57 = .ok (.iaload, 1) := by decide +kernel
theorem dX6_wrong_58 : decode cX6_wrong 58 = .ok (.invokevirtual 56, 3) := by decide +kernel
theorem dX6_wrong_61 : decode cX6_wrong 61 = .ok (.if_icmp .ge 7, 3) := by decide +kernel
theorem dX6_wrong_64 : decode cX6_wrong 64 = .ok (.iconst 1, 1) := by decide +kernel
theorem dX6_wrong_65 : decode cX6_wrong 65 = .ok (.goto 4, 3) := by decide +kernel
theorem dX6_wrong_68 : decode cX6_wrong 68 = .ok (.iconst 0, 1) := by decide +kernel
theorem dX6_wrong_69 : decode cX6_wrong 69 = .ok (.iadd, 1) := by decide +kernel
theorem dX6_wrong_70 : decode cX6_wrong 70 = .ok (.istore_n 1, 1) := by decide +kernel
theorem dX6_wrong_71 : decode cX6_wrong 71 = .ok (.iinc 3 1, 3) := by decide +kernel
theorem dX6_wrong_74 : decode cX6_wrong 74 = .ok (.goto (-58), 3) := by decide +kernel
theorem dX6_wrong_77 : decode cX6_wrong 77 = .ok (.iinc 2 1, 3) := by decide +kernel
theorem dX6_wrong_80 : decode cX6_wrong 80 = .ok (.goto (-76), 3) := by decide +kernel
theorem dX6_wrong_83 : decode cX6_wrong 83 = .ok (.iload_n 1, 1) := by decide +kernel
theorem dX6_wrong_84 : decode cX6_wrong 84 = .ok (.ireturn, 1) := by decide +kernel
theorem dX6_spilledIn_0 : decode cX6_spilledIn 0 = .ok (.iconst 0, 1) := by decide +kernel
theorem dX6_spilledIn_1 : decode cX6_spilledIn 1 = .ok (.istore_n 2, 1) := by decide +kernel
theorem dX6_spilledIn_2 : decode cX6_spilledIn 2 = .ok (.iconst 0, 1) := by decide +kernel
theorem dX6_spilledIn_3 : decode cX6_spilledIn 3 = .ok (.istore_n 3, 1) := by decide +kernel
theorem dX6_spilledIn_4 : decode cX6_spilledIn 4 = .ok (.iload_n 3, 1) := by decide +kernel
theorem dX6_spilledIn_5 : decode cX6_spilledIn 5 = .ok (.aload_n 0, 1) := by decide +kernel
theorem dX6_spilledIn_6 : decode cX6_spilledIn 6 = .ok (.getfield 7, 3) := by decide +kernel
theorem dX6_spilledIn_9 : decode cX6_spilledIn 9 = .ok (.bipush 25, 2) := by decide +kernel
theorem dX6_spilledIn_11 : decode cX6_spilledIn 11 = .ok (.iaload, 1) := by decide +kernel
theorem dX6_spilledIn_12 : decode cX6_spilledIn 12 = .ok (.if_icmp .ge 27, 3) := by decide +kernel
theorem dX6_spilledIn_15 : decode cX6_spilledIn 15 = .ok (.iload_n 2, 1) := by decide +kernel
theorem dX6_spilledIn_16 : decode cX6_spilledIn 16 = .ok (.aload_n 0, 1) := by decide +kernel
theorem dX6_spilledIn_17 : decode cX6_spilledIn 17 = .ok (.getfield 29, 3) := by decide +kernel
theorem dX6_spilledIn_20 : decode cX6_spilledIn 20 = .ok (.iload_n 3, 1) := by decide +kernel
theorem dX6_spilledIn_21 : decode cX6_spilledIn 21 = .ok (.iaload, 1) := by decide +kernel
theorem dX6_spilledIn_22 : decode cX6_spilledIn 22 = .ok (.iload_n 1, 1) := by decide +kernel
theorem dX6_spilledIn_23 : decode cX6_spilledIn 23 = .ok (.if_icmp .ne 7, 3) := by decide +kernel
theorem dX6_spilledIn_26 : decode cX6_spilledIn 26 = .ok (.iconst 1, 1) := by decide +kernel
theorem dX6_spilledIn_27 : decode cX6_spilledIn 27 = .ok (.goto 4, 3) := by decide +kernel
theorem dX6_spilledIn_30 : decode cX6_spilledIn 30 = .ok (.iconst 0, 1) := by decide +kernel
theorem dX6_spilledIn_31 : decode cX6_spilledIn 31 = .ok (.iadd, 1) := by decide +kernel
theorem dX6_spilledIn_32 : decode cX6_spilledIn 32 = .ok (.istore_n 2, 1) := by decide +kernel
theorem dX6_spilledIn_33 : decode cX6_spilledIn 33 = .ok (.iinc 3 1, 3) := by decide +kernel
theorem dX6_spilledIn_36 : decode cX6_spilledIn 36 = .ok (.goto (-32), 3) := by decide +kernel
theorem dX6_spilledIn_39 : decode cX6_spilledIn 39 = .ok (.iload_n 2, 1) := by decide +kernel
theorem dX6_spilledIn_40 : decode cX6_spilledIn 40 = .ok (.ireturn, 1) := by decide +kernel
set_option maxRecDepth 20000 in
theorem ggX6_run_X6_isRun : GoodIn wsX6_run wsX6_isRun := goodIn_r _ [6, 7, 8, 5, 9] (by decide +kernel) (by decide +kernel)
set_option maxRecDepth 20000 in
theorem gX6_run_X6_isRun : GoodIn wsX6_run (va_wsS RX6 84 yX6_isRun wsX6_isRun) := goodIn_app (goodIn_of _ (by decide +kernel)) ggX6_run_X6_isRun
set_option maxRecDepth 20000 in
theorem ggX6_run_X6_in : GoodIn wsX6_run wsX6_in := goodIn_r _ [9] (by decide +kernel) (by decide +kernel)
set_option maxRecDepth 20000 in
theorem gX6_run_X6_in : GoodIn wsX6_run (va_wsS RX6 41 yX6_in wsX6_in) := goodIn_app (goodIn_of _ (by decide +kernel)) ggX6_run_X6_in
set_option maxRecDepth 20000 in
theorem ggX6_run_X6_goRun : GoodIn wsX6_run wsX6_goRun := goodIn_r _ [13, 2, 1, 14, 15, 16, 17, 5, 18, 19, 20, 21, 22, 23, 24, 25, 26, 27, 28, 29, 30, 31, 44, 45, 46, 47, 48, 49, 50, 51, 52, 53, 54, 55, 56, 57, 58, 59] (by decide +kernel) (by decide +kernel)
set_option maxRecDepth 20000 in
theorem gX6_run_X6_goRun : GoodIn wsX6_run (wsV RX6 87 RX6 yX6_goRun wsX6_goRun) := goodIn_app (goodIn_of _ (by decide +kernel)) ggX6_run_X6_goRun
set_option maxRecDepth 20000 in
theorem ggX6_run_X6_wrong : GoodIn wsX6_run wsX6_wrong := goodIn_r _ [35, 1, 2, 14, 36, 37, 38, 5, 39, 44, 45, 46, 47, 48, 49, 50, 51, 52, 53, 54, 55, 56, 57, 58, 59] (by decide +kernel) (by decide +kernel)
set_option maxRecDepth 20000 in
theorem gX6_run_X6_wrong : GoodIn wsX6_run (wsV RX6 90 RX6 yX6_wrong wsX6_wrong) := goodIn_app (goodIn_of _ (by decide +kernel)) ggX6_run_X6_wrong
set_option maxRecDepth 20000 in
theorem ggX6_run_X6_spilledIn : GoodIn wsX6_run wsX6_spilledIn := goodIn_r _ [43, 2, 21, 44, 45, 46, 47, 48, 49, 50, 51, 52, 53, 54, 55, 56, 57, 58, 59] (by decide +kernel) (by decide +kernel)
set_option maxRecDepth 20000 in
theorem gX6_run_X6_spilledIn : GoodIn wsX6_run (wsV RX6 93 RX6 yX6_spilledIn wsX6_spilledIn) := goodIn_app (goodIn_of _ (by decide +kernel)) ggX6_run_X6_spilledIn
theorem dX6_run_0 : decode cX6_run 0 = .ok (.iload_n 1, 1) := by decide +kernel
theorem dX6_run_1 : decode cX6_run 1 = .ok (.invokestatic 84, 3) := by decide +kernel
theorem dX6_run_4 : decode cX6_run 4 = .ok (.ifCond .eq 12, 3) := by decide +kernel
theorem dX6_run_7 : decode cX6_run 7 = .ok (.iload_n 2, 1) := by decide +kernel
theorem dX6_run_8 : decode cX6_run 8 = .ok (.iconst 0, 1) := by decide +kernel
theorem dX6_run_9 : decode cX6_run 9 = .ok (.iconst 3, 1) := by decide +kernel
theorem dX6_run_10 : decode cX6_run 10 = .ok (.invokestatic 41, 3) := by decide +kernel
theorem dX6_run_13 : decode cX6_run 13 = .ok (.ifCond .ne 6, 3) := by decide +kernel
theorem dX6_run_16 : decode cX6_run 16 = .ok (.bipush (-2), 2) := by decide +kernel
theorem dX6_run_18 : decode cX6_run 18 = .ok (.ireturn, 1) := by decide +kernel
theorem dX6_run_19 : decode cX6_run 19 = .ok (.aload_n 0, 1) := by decide +kernel
theorem dX6_run_20 : decode cX6_run 20 = .ok (.iload_n 1, 1) := by decide +kernel
theorem dX6_run_21 : decode cX6_run 21 = .ok (.invokevirtual 87, 3) := by decide +kernel
theorem dX6_run_24 : decode cX6_run 24 = .ok (.iload_n 2, 1) := by decide +kernel
theorem dX6_run_25 : decode cX6_run 25 = .ok (.ifCond .ne 10, 3) := by decide +kernel
theorem dX6_run_28 : decode cX6_run 28 = .ok (.aload_n 0, 1) := by decide +kernel
theorem dX6_run_29 : decode cX6_run 29 = .ok (.getfield 70, 3) := by decide +kernel
theorem dX6_run_32 : decode cX6_run 32 = .ok (.goto 40, 3) := by decide +kernel
theorem dX6_run_35 : decode cX6_run 35 = .ok (.iload_n 2, 1) := by decide +kernel
theorem dX6_run_36 : decode cX6_run 36 = .ok (.iconst 1, 1) := by decide +kernel
theorem dX6_run_37 : decode cX6_run 37 = .ok (.if_icmp .ne 18, 3) := by decide +kernel
theorem dX6_run_40 : decode cX6_run 40 = .ok (.aload_n 0, 1) := by decide +kernel
theorem dX6_run_41 : decode cX6_run 41 = .ok (.getfield 7, 3) := by decide +kernel
theorem dX6_run_44 : decode cX6_run 44 = .ok (.bipush 25, 2) := by decide +kernel
theorem dX6_run_46 : decode cX6_run 46 = .ok (.iaload, 1) := by decide +kernel
theorem dX6_run_47 : decode cX6_run 47 = .ok (.aload_n 0, 1) := by decide +kernel
theorem dX6_run_48 : decode cX6_run 48 = .ok (.getfield 70, 3) := by decide +kernel
theorem dX6_run_51 : decode cX6_run 51 = .ok (.isub, 1) := by decide +kernel
theorem dX6_run_52 : decode cX6_run 52 = .ok (.goto 20, 3) := by decide +kernel
theorem dX6_run_55 : decode cX6_run 55 = .ok (.iload_n 2, 1) := by decide +kernel
theorem dX6_run_56 : decode cX6_run 56 = .ok (.iconst 2, 1) := by decide +kernel
theorem dX6_run_57 : decode cX6_run 57 = .ok (.if_icmp .ne 10, 3) := by decide +kernel
theorem dX6_run_60 : decode cX6_run 60 = .ok (.aload_n 0, 1) := by decide +kernel
theorem dX6_run_61 : decode cX6_run 61 = .ok (.invokevirtual 90, 3) := by decide +kernel
theorem dX6_run_64 : decode cX6_run 64 = .ok (.goto 8, 3) := by decide +kernel
theorem dX6_run_67 : decode cX6_run 67 = .ok (.aload_n 0, 1) := by decide +kernel
theorem dX6_run_68 : decode cX6_run 68 = .ok (.iload_n 1, 1) := by decide +kernel
theorem dX6_run_69 : decode cX6_run 69 = .ok (.invokevirtual 93, 3) := by decide +kernel
theorem dX6_run_72 : decode cX6_run 72 = .ok (.ireturn, 1) := by decide +kernel
set_option maxRecDepth 20000 in
theorem ggX6_out_X6_isRun : GoodIn wsX6_out wsX6_isRun := goodIn_r _ [6, 7, 8, 5, 9] (by decide +kernel) (by decide +kernel)
set_option maxRecDepth 20000 in
theorem gX6_out_X6_isRun : GoodIn wsX6_out (va_wsS RX6 84 yX6_isRun wsX6_isRun) := goodIn_app (goodIn_of _ (by decide +kernel)) ggX6_out_X6_isRun
set_option maxRecDepth 20000 in
theorem ggX6_out_X6_goRun : GoodIn wsX6_out wsX6_goRun := goodIn_r _ [13, 14, 1, 2, 15, 16, 17, 5, 18, 19, 20, 21, 22, 23, 24, 25, 26, 27, 28, 29, 30, 31, 32, 33, 34, 35, 36, 37, 38, 39, 40, 41, 42, 43, 44, 45, 46, 47] (by decide +kernel) (by decide +kernel)
set_option maxRecDepth 20000 in
theorem gX6_out_X6_goRun : GoodIn wsX6_out (wsV RX6 87 RX6 yX6_goRun wsX6_goRun) := goodIn_app (goodIn_of _ (by decide +kernel)) ggX6_out_X6_goRun
set_option maxRecDepth 20000 in
theorem ggX6_out_X6_in : GoodIn wsX6_out wsX6_in := goodIn_r _ [9] (by decide +kernel) (by decide +kernel)
set_option maxRecDepth 20000 in
theorem gX6_out_X6_in : GoodIn wsX6_out (va_wsS RX6 41 yX6_in wsX6_in) := goodIn_app (goodIn_of _ (by decide +kernel)) ggX6_out_X6_in
theorem dX6_out_0 : decode cX6_out 0 = .ok (.iload_n 1, 1) := by decide +kernel
theorem dX6_out_1 : decode cX6_out 1 = .ok (.invokestatic 84, 3) := by decide +kernel
theorem dX6_out_4 : decode cX6_out 4 = .ok (.ifCond .ne 6, 3) := by decide +kernel
theorem dX6_out_7 : decode cX6_out 7 = .ok (.bipush (-2), 2) := by decide +kernel
theorem dX6_out_9 : decode cX6_out 9 = .ok (.ireturn, 1) := by decide +kernel
theorem dX6_out_10 : decode cX6_out 10 = .ok (.aload_n 0, 1) := by decide +kernel
theorem dX6_out_11 : decode cX6_out 11 = .ok (.iload_n 1, 1) := by decide +kernel
theorem dX6_out_12 : decode cX6_out 12 = .ok (.invokevirtual 87, 3) := by decide +kernel
theorem dX6_out_15 : decode cX6_out 15 = .ok (.iload_n 2, 1) := by decide +kernel
theorem dX6_out_16 : decode cX6_out 16 = .ok (.iconst 0, 1) := by decide +kernel
theorem dX6_out_17 : decode cX6_out 17 = .ok (.aload_n 0, 1) := by decide +kernel
theorem dX6_out_18 : decode cX6_out 18 = .ok (.getfield 70, 3) := by decide +kernel
theorem dX6_out_21 : decode cX6_out 21 = .ok (.iconst 1, 1) := by decide +kernel
theorem dX6_out_22 : decode cX6_out 22 = .ok (.isub, 1) := by decide +kernel
theorem dX6_out_23 : decode cX6_out 23 = .ok (.invokestatic 41, 3) := by decide +kernel
theorem dX6_out_26 : decode cX6_out 26 = .ok (.ifCond .eq 12, 3) := by decide +kernel
theorem dX6_out_29 : decode cX6_out 29 = .ok (.aload_n 0, 1) := by decide +kernel
theorem dX6_out_30 : decode cX6_out 30 = .ok (.getfield 20, 3) := by decide +kernel
theorem dX6_out_33 : decode cX6_out 33 = .ok (.iload_n 2, 1) := by decide +kernel
theorem dX6_out_34 : decode cX6_out 34 = .ok (.iaload, 1) := by decide +kernel
theorem dX6_out_35 : decode cX6_out 35 = .ok (.goto 5, 3) := by decide +kernel
theorem dX6_out_38 : decode cX6_out 38 = .ok (.bipush (-6), 2) := by decide +kernel
theorem dX6_out_40 : decode cX6_out 40 = .ok (.ireturn, 1) := by decide +kernel
set_option maxRecDepth 20000 in
theorem ggX6_spilled_X6_isRun : GoodIn wsX6_spilled wsX6_isRun := goodIn_r _ [5, 6, 7, 4, 8] (by decide +kernel) (by decide +kernel)
set_option maxRecDepth 20000 in
theorem gX6_spilled_X6_isRun : GoodIn wsX6_spilled (va_wsS RX6 84 yX6_isRun wsX6_isRun) := goodIn_app (goodIn_of _ (by decide +kernel)) ggX6_spilled_X6_isRun
set_option maxRecDepth 20000 in
theorem ggX6_spilled_X6_isLetter : GoodIn wsX6_spilled wsX6_isLetter := goodIn_r _ [12, 13, 6, 7, 4, 8, 36, 37, 38, 39, 40, 41, 42, 43, 44, 45, 46, 47, 48, 49, 50, 51] (by decide +kernel) (by decide +kernel)
set_option maxRecDepth 20000 in
theorem gX6_spilled_X6_isLetter : GoodIn wsX6_spilled (wsV RX6 49 RX6 yX6_isLetter wsX6_isLetter) := goodIn_app (goodIn_of _ (by decide +kernel)) ggX6_spilled_X6_isLetter
set_option maxRecDepth 20000 in
theorem ggX6_spilled_X6_goRun : GoodIn wsX6_spilled wsX6_goRun := goodIn_r _ [17, 13, 18, 19, 20, 21, 22, 4, 23, 24, 25, 1, 26, 27, 28, 29, 30, 31, 32, 33, 34, 35, 36, 37, 38, 39, 40, 41, 42, 43, 44, 45, 46, 47, 48, 49, 50, 51] (by decide +kernel) (by decide +kernel)
set_option maxRecDepth 20000 in
theorem gX6_spilled_X6_goRun : GoodIn wsX6_spilled (wsV RX6 87 RX6 yX6_goRun wsX6_goRun) := goodIn_app (goodIn_of _ (by decide +kernel)) ggX6_spilled_X6_goRun
theorem dX6_spilled_0 : decode cX6_spilled 0 = .ok (.iload_n 1, 1) := by decide +kernel
theorem dX6_spilled_1 : decode cX6_spilled 1 = .ok (.invokestatic 84, 3) := by decide +kernel
theorem dX6_spilled_4 : decode cX6_spilled 4 = .ok (.ifCond .ne 6, 3) := by decide +kernel
theorem dX6_spilled_7 : decode cX6_spilled 7 = .ok (.bipush (-2), 2) := by decide +kernel
theorem dX6_spilled_9 : decode cX6_spilled 9 = .ok (.ireturn, 1) := by decide +kernel
theorem dX6_spilled_10 : decode cX6_spilled 10 = .ok (.aload_n 0, 1) := by decide +kernel
theorem dX6_spilled_11 : decode cX6_spilled 11 = .ok (.iload_n 2, 1) := by decide +kernel
theorem dX6_spilled_12 : decode cX6_spilled 12 = .ok (.invokevirtual 49, 3) := by decide +kernel
theorem dX6_spilled_15 : decode cX6_spilled 15 = .ok (.ifCond .ne 5, 3) := by decide +kernel
theorem dX6_spilled_18 : decode cX6_spilled 18 = .ok (.iconst (-1), 1) := by decide +kernel
theorem dX6_spilled_19 : decode cX6_spilled 19 = .ok (.ireturn, 1) := by decide +kernel
theorem dX6_spilled_20 : decode cX6_spilled 20 = .ok (.aload_n 0, 1) := by decide +kernel
theorem dX6_spilled_21 : decode cX6_spilled 21 = .ok (.iload_n 1, 1) := by decide +kernel
theorem dX6_spilled_22 : decode cX6_spilled 22 = .ok (.invokevirtual 87, 3) := by decide +kernel
theorem dX6_spilled_25 : decode cX6_spilled 25 = .ok (.aload_n 0, 1) := by decide +kernel
theorem dX6_spilled_26 : decode cX6_spilled 26 = .ok (.getfield 29, 3) := by decide +kernel
theorem dX6_spilled_29 : decode cX6_spilled 29 = .ok (.iload_n 2, 1) := by decide +kernel
theorem dX6_spilled_30 : decode cX6_spilled 30 = .ok (.iaload, 1) := by decide +kernel
theorem dX6_spilled_31 : decode cX6_spilled 31 = .ok (.ireturn, 1) := by decide +kernel
set_option maxRecDepth 20000 in
theorem ggX6_load_X6_isRun : GoodIn wsX6_load wsX6_isRun := goodIn_r _ [5, 6, 7, 4, 8] (by decide +kernel) (by decide +kernel)
set_option maxRecDepth 20000 in
theorem gX6_load_X6_isRun : GoodIn wsX6_load (va_wsS RX6 84 yX6_isRun wsX6_isRun) := goodIn_app (goodIn_of _ (by decide +kernel)) ggX6_load_X6_isRun
set_option maxRecDepth 20000 in
theorem ggX6_load_X6_isStacker : GoodIn wsX6_load wsX6_isStacker := goodIn_r _ [12, 13, 6, 7, 4, 8, 36, 37, 38, 39, 40, 41, 42, 43, 44, 45, 46, 47, 48, 49, 50, 51] (by decide +kernel) (by decide +kernel)
set_option maxRecDepth 20000 in
theorem gX6_load_X6_isStacker : GoodIn wsX6_load (wsV RX6 60 RX6 yX6_isStacker wsX6_isStacker) := goodIn_app (goodIn_of _ (by decide +kernel)) ggX6_load_X6_isStacker
set_option maxRecDepth 20000 in
theorem ggX6_load_X6_goRun : GoodIn wsX6_load wsX6_goRun := goodIn_r _ [17, 13, 18, 19, 20, 21, 22, 4, 23, 1, 24, 25, 26, 27, 28, 29, 30, 31, 32, 33, 34, 35, 36, 37, 38, 39, 40, 41, 42, 43, 44, 45, 46, 47, 48, 49, 50, 51] (by decide +kernel) (by decide +kernel)
set_option maxRecDepth 20000 in
theorem gX6_load_X6_goRun : GoodIn wsX6_load (wsV RX6 87 RX6 yX6_goRun wsX6_goRun) := goodIn_app (goodIn_of _ (by decide +kernel)) ggX6_load_X6_goRun
theorem dX6_load_0 : decode cX6_load 0 = .ok (.iload_n 1, 1) := by decide +kernel
theorem dX6_load_1 : decode cX6_load 1 = .ok (.invokestatic 84, 3) := by decide +kernel
theorem dX6_load_4 : decode cX6_load 4 = .ok (.ifCond .ne 6, 3) := by decide +kernel
theorem dX6_load_7 : decode cX6_load 7 = .ok (.bipush (-2), 2) := by decide +kernel
theorem dX6_load_9 : decode cX6_load 9 = .ok (.ireturn, 1) := by decide +kernel
theorem dX6_load_10 : decode cX6_load 10 = .ok (.aload_n 0, 1) := by decide +kernel
theorem dX6_load_11 : decode cX6_load 11 = .ok (.iload_n 2, 1) := by decide +kernel
theorem dX6_load_12 : decode cX6_load 12 = .ok (.invokevirtual 60, 3) := by decide +kernel
theorem dX6_load_15 : decode cX6_load 15 = .ok (.ifCond .ne 5, 3) := by decide +kernel
theorem dX6_load_18 : decode cX6_load 18 = .ok (.iconst (-1), 1) := by decide +kernel
theorem dX6_load_19 : decode cX6_load 19 = .ok (.ireturn, 1) := by decide +kernel
theorem dX6_load_20 : decode cX6_load 20 = .ok (.aload_n 0, 1) := by decide +kernel
theorem dX6_load_21 : decode cX6_load 21 = .ok (.iload_n 1, 1) := by decide +kernel
theorem dX6_load_22 : decode cX6_load 22 = .ok (.invokevirtual 87, 3) := by decide +kernel
theorem dX6_load_25 : decode cX6_load 25 = .ok (.aload_n 0, 1) := by decide +kernel
theorem dX6_load_26 : decode cX6_load 26 = .ok (.getfield 32, 3) := by decide +kernel
theorem dX6_load_29 : decode cX6_load 29 = .ok (.iload_n 2, 1) := by decide +kernel
theorem dX6_load_30 : decode cX6_load 30 = .ok (.iaload, 1) := by decide +kernel
theorem dX6_load_31 : decode cX6_load 31 = .ok (.ireturn, 1) := by decide +kernel
set_option maxRecDepth 20000 in
theorem ggX6_rise_X6_isUsed : GoodIn wsX6_rise wsX6_isUsed := goodIn_r _ [6, 1, 7, 8, 9, 10, 11, 12, 13, 14, 15, 16, 17, 18, 19, 20, 21, 22] (by decide +kernel) (by decide +kernel)
set_option maxRecDepth 20000 in
theorem gX6_rise_X6_isUsed : GoodIn wsX6_rise (wsV RX6 63 RX6 yX6_isUsed wsX6_isUsed) := goodIn_app (goodIn_of _ (by decide +kernel)) ggX6_rise_X6_isUsed
theorem dX6_rise_0 : decode cX6_rise 0 = .ok (.iconst (-1), 1) := by decide +kernel
theorem dX6_rise_1 : decode cX6_rise 1 = .ok (.istore_n 1, 1) := by decide +kernel
theorem dX6_rise_2 : decode cX6_rise 2 = .ok (.iconst 0, 1) := by decide +kernel
theorem dX6_rise_3 : decode cX6_rise 3 = .ok (.istore_n 2, 1) := by decide +kernel
theorem dX6_rise_4 : decode cX6_rise 4 = .ok (.iload_n 2, 1) := by decide +kernel
theorem dX6_rise_5 : decode cX6_rise 5 = .ok (.bipush 10, 2) := by decide +kernel
theorem dX6_rise_7 : decode cX6_rise 7 = .ok (.if_icmp .ge 51, 3) := by decide +kernel
theorem dX6_rise_10 : decode cX6_rise 10 = .ok (.aload_n 0, 1) := by decide +kernel
theorem dX6_rise_11 : decode cX6_rise 11 = .ok (.getfield 7, 3) := by decide +kernel
theorem dX6_rise_14 : decode cX6_rise 14 = .ok (.iconst 0, 1) := by decide +kernel
theorem dX6_rise_15 : decode cX6_rise 15 = .ok (.iload_n 2, 1) := by decide +kernel
theorem dX6_rise_16 : decode cX6_rise 16 = .ok (.iadd, 1) := by decide +kernel
theorem dX6_rise_17 : decode cX6_rise 17 = .ok (.iaload, 1) := by decide +kernel
theorem dX6_rise_18 : decode cX6_rise 18 = .ok (.istore_n 3, 1) := by decide +kernel
theorem dX6_rise_19 : decode cX6_rise 19 = .ok (.aload_n 0, 1) := by decide +kernel
theorem dX6_rise_20 : decode cX6_rise 20 = .ok (.iload_n 3, 1) := by decide +kernel
theorem dX6_rise_21 : decode cX6_rise 21 = .ok (.invokevirtual 63, 3) := by decide +kernel
theorem dX6_rise_24 : decode cX6_rise 24 = .ok (.ifCond .eq 28, 3) := by decide +kernel
theorem dX6_rise_27 : decode cX6_rise 27 = .ok (.aload_n 0, 1) := by decide +kernel
theorem dX6_rise_28 : decode cX6_rise 28 = .ok (.getfield 7, 3) := by decide +kernel
theorem dX6_rise_31 : decode cX6_rise 31 = .ok (.bipush 10, 2) := by decide +kernel
theorem dX6_rise_33 : decode cX6_rise 33 = .ok (.iload_n 3, 1) := by decide +kernel
theorem dX6_rise_34 : decode cX6_rise 34 = .ok (.iadd, 1) := by decide +kernel
theorem dX6_rise_35 : decode cX6_rise 35 = .ok (.iaload, 1) := by decide +kernel
theorem dX6_rise_36 : decode cX6_rise 36 = .ok (.iload_n 1, 1) := by decide +kernel
theorem dX6_rise_37 : decode cX6_rise 37 = .ok (.if_icmp .gt 5, 3) := by decide +kernel
theorem dX6_rise_40 : decode cX6_rise 40 = .ok (.iconst 0, 1) := by decide +kernel
theorem dX6_rise_41 : decode cX6_rise 41 = .ok (.ireturn, 1) := by decide +kernel
theorem dX6_rise_42 : decode cX6_rise 42 = .ok (.aload_n 0, 1) := by decide +kernel
theorem dX6_rise_43 : decode cX6_rise 43 = .ok (.getfield 7, 3) := by decide +kernel
theorem dX6_rise_46 : decode cX6_rise 46 = .ok (.bipush 10, 2) := by decide +kernel
theorem dX6_rise_48 : decode cX6_rise 48 = .ok (.iload_n 3, 1) := by decide +kernel
theorem dX6_rise_49 : decode cX6_rise 49 = .ok (.iadd, 1) := by decide +kernel
theorem dX6_rise_50 : decode cX6_rise 50 = .ok (.iaload, 1) := by decide +kernel
theorem dX6_rise_51 : decode cX6_rise 51 = .ok (.istore_n 1, 1) := by decide +kernel
theorem dX6_rise_52 : decode cX6_rise 52 = .ok (.iinc 2 1, 3) := by decide +kernel
theorem dX6_rise_55 : decode cX6_rise 55 = .ok (.goto (-51), 3) := by decide +kernel
theorem dX6_rise_58 : decode cX6_rise 58 = .ok (.iconst 1, 1) := by decide +kernel
theorem dX6_rise_59 : decode cX6_rise 59 = .ok (.ireturn, 1) := by decide +kernel
theorem dX6_power_0 : decode cX6_power 0 = .ok (.iconst 1, 1) := by decide +kernel
theorem dX6_power_1 : decode cX6_power 1 = .ok (.istore_n 2, 1) := by decide +kernel
theorem dX6_power_2 : decode cX6_power 2 = .ok (.iconst 0, 1) := by decide +kernel
theorem dX6_power_3 : decode cX6_power 3 = .ok (.istore_n 3, 1) := by decide +kernel
theorem dX6_power_4 : decode cX6_power 4 = .ok (.iload_n 3, 1) := by decide +kernel
theorem dX6_power_5 : decode cX6_power 5 = .ok (.iload_n 1, 1) := by decide +kernel
theorem dX6_power_6 : decode cX6_power 6 = .ok (.if_icmp .ge 19, 3) := by decide +kernel
theorem dX6_power_9 : decode cX6_power 9 = .ok (.iload_n 2, 1) := by decide +kernel
theorem dX6_power_10 : decode cX6_power 10 = .ok (.aload_n 0, 1) := by decide +kernel
theorem dX6_power_11 : decode cX6_power 11 = .ok (.getfield 7, 3) := by decide +kernel
theorem dX6_power_14 : decode cX6_power 14 = .ok (.bipush 24, 2) := by decide +kernel
theorem dX6_power_16 : decode cX6_power 16 = .ok (.iaload, 1) := by decide +kernel
theorem dX6_power_17 : decode cX6_power 17 = .ok (.imul, 1) := by decide +kernel
theorem dX6_power_18 : decode cX6_power 18 = .ok (.istore_n 2, 1) := by decide +kernel
theorem dX6_power_19 : decode cX6_power 19 = .ok (.iinc 3 1, 3) := by decide +kernel
theorem dX6_power_22 : decode cX6_power 22 = .ok (.goto (-18), 3) := by decide +kernel
theorem dX6_power_25 : decode cX6_power 25 = .ok (.iload_n 2, 1) := by decide +kernel
theorem dX6_power_26 : decode cX6_power 26 = .ok (.ireturn, 1) := by decide +kernel
theorem dX6_size_0 : decode cX6_size 0 = .ok (.iconst 0, 1) := by decide +kernel
theorem dX6_size_1 : decode cX6_size 1 = .ok (.istore_n 1, 1) := by decide +kernel
theorem dX6_size_2 : decode cX6_size 2 = .ok (.iconst 0, 1) := by decide +kernel
theorem dX6_size_3 : decode cX6_size 3 = .ok (.istore_n 2, 1) := by decide +kernel
theorem dX6_size_4 : decode cX6_size 4 = .ok (.iload_n 2, 1) := by decide +kernel
theorem dX6_size_5 : decode cX6_size 5 = .ok (.bipush 16, 2) := by decide +kernel
theorem dX6_size_7 : decode cX6_size 7 = .ok (.if_icmp .ge 17, 3) := by decide +kernel
theorem dX6_size_10 : decode cX6_size 10 = .ok (.iload_n 1, 1) := by decide +kernel
theorem dX6_size_11 : decode cX6_size 11 = .ok (.iload_n 0, 1) := by decide +kernel
theorem dX6_size_12 : decode cX6_size 12 = .ok (.iload_n 2, 1) := by decide +kernel
theorem dX6_size_13 : decode cX6_size 13 = .ok (.ishr, 1) := by decide +kernel
theorem dX6_size_14 : decode cX6_size 14 = .ok (.iconst 1, 1) := by decide +kernel
theorem dX6_size_15 : decode cX6_size 15 = .ok (.iand, 1) := by decide +kernel
theorem dX6_size_16 : decode cX6_size 16 = .ok (.iadd, 1) := by decide +kernel
theorem dX6_size_17 : decode cX6_size 17 = .ok (.istore_n 1, 1) := by decide +kernel
theorem dX6_size_18 : decode cX6_size 18 = .ok (.iinc 2 1, 3) := by decide +kernel
theorem dX6_size_21 : decode cX6_size 21 = .ok (.goto (-17), 3) := by decide +kernel
theorem dX6_size_24 : decode cX6_size 24 = .ok (.iload_n 1, 1) := by decide +kernel
theorem dX6_size_25 : decode cX6_size 25 = .ok (.ireturn, 1) := by decide +kernel
set_option maxRecDepth 20000 in
theorem ggX6_usedMany_X6_isUsed : GoodIn wsX6_usedMany wsX6_isUsed := goodIn_r _ [5, 6, 7, 8, 9, 10, 11, 12, 13, 14, 15, 16, 17, 18, 19, 20, 21, 22] (by decide +kernel) (by decide +kernel)
set_option maxRecDepth 20000 in
theorem gX6_usedMany_X6_isUsed : GoodIn wsX6_usedMany (wsV RX6 63 RX6 yX6_isUsed wsX6_isUsed) := goodIn_app (goodIn_of _ (by decide +kernel)) ggX6_usedMany_X6_isUsed
theorem dX6_usedMany_0 : decode cX6_usedMany 0 = .ok (.iconst 0, 1) := by decide +kernel
theorem dX6_usedMany_1 : decode cX6_usedMany 1 = .ok (.istore_n 1, 1) := by decide +kernel
theorem dX6_usedMany_2 : decode cX6_usedMany 2 = .ok (.iconst 0, 1) := by decide +kernel
theorem dX6_usedMany_3 : decode cX6_usedMany 3 = .ok (.istore_n 2, 1) := by decide +kernel
theorem dX6_usedMany_4 : decode cX6_usedMany 4 = .ok (.iload_n 2, 1) := by decide +kernel
theorem dX6_usedMany_5 : decode cX6_usedMany 5 = .ok (.bipush 10, 2) := by decide +kernel
theorem dX6_usedMany_7 : decode cX6_usedMany 7 = .ok (.if_icmp .ge 25, 3) := by decide +kernel
theorem dX6_usedMany_10 : decode cX6_usedMany 10 = .ok (.iload_n 1, 1) := by decide +kernel
theorem dX6_usedMany_11 : decode cX6_usedMany 11 = .ok (.aload_n 0, 1) := by decide +kernel
theorem dX6_usedMany_12 : decode cX6_usedMany 12 = .ok (.iload_n 2, 1) := by decide +kernel
theorem dX6_usedMany_13 : decode cX6_usedMany 13 = .ok (.invokevirtual 63, 3) := by decide +kernel
theorem dX6_usedMany_16 : decode cX6_usedMany 16 = .ok (.ifCond .eq 7, 3) := by decide +kernel
theorem dX6_usedMany_19 : decode cX6_usedMany 19 = .ok (.iconst 1, 1) := by decide +kernel
theorem dX6_usedMany_20 : decode cX6_usedMany 20 = .ok (.goto 4, 3) := by decide +kernel
theorem dX6_usedMany_23 : decode cX6_usedMany 23 = .ok (.iconst 0, 1) := by decide +kernel
theorem dX6_usedMany_24 : decode cX6_usedMany 24 = .ok (.iadd, 1) := by decide +kernel
theorem dX6_usedMany_25 : decode cX6_usedMany 25 = .ok (.istore_n 1, 1) := by decide +kernel
theorem dX6_usedMany_26 : decode cX6_usedMany 26 = .ok (.iinc 2 1, 3) := by decide +kernel
theorem dX6_usedMany_29 : decode cX6_usedMany 29 = .ok (.goto (-25), 3) := by decide +kernel
theorem dX6_usedMany_32 : decode cX6_usedMany 32 = .ok (.iload_n 1, 1) := by decide +kernel
theorem dX6_usedMany_33 : decode cX6_usedMany 33 = .ok (.ireturn, 1) := by decide +kernel
set_option maxRecDepth 20000 in
theorem ggX6_takeCodes_X6_isUsed : GoodIn wsX6_takeCodes wsX6_isUsed := goodIn_r _ [6, 1, 7, 8, 9, 10, 11, 12, 13, 14, 15, 16, 17, 18, 19, 20, 21, 22] (by decide +kernel) (by decide +kernel)
set_option maxRecDepth 20000 in
theorem gX6_takeCodes_X6_isUsed : GoodIn wsX6_takeCodes (wsV RX6 63 RX6 yX6_isUsed wsX6_isUsed) := goodIn_app (goodIn_of _ (by decide +kernel)) ggX6_takeCodes_X6_isUsed
theorem dX6_takeCodes_0 : decode cX6_takeCodes 0 = .ok (.iconst 0, 1) := by decide +kernel
theorem dX6_takeCodes_1 : decode cX6_takeCodes 1 = .ok (.istore_n 2, 1) := by decide +kernel
theorem dX6_takeCodes_2 : decode cX6_takeCodes 2 = .ok (.iconst 0, 1) := by decide +kernel
theorem dX6_takeCodes_3 : decode cX6_takeCodes 3 = .ok (.istore_n 3, 1) := by decide +kernel
theorem dX6_takeCodes_4 : decode cX6_takeCodes 4 = .ok (.iload_n 3, 1) := by decide +kernel
theorem dX6_takeCodes_5 : decode cX6_takeCodes 5 = .ok (.bipush 10, 2) := by decide +kernel
theorem dX6_takeCodes_7 : decode cX6_takeCodes 7 = .ok (.if_icmp .ge 58, 3) := by decide +kernel
theorem dX6_takeCodes_10 : decode cX6_takeCodes 10 = .ok (.aload_n 0, 1) := by decide +kernel
theorem dX6_takeCodes_11 : decode cX6_takeCodes 11 = .ok (.aload_n 0, 1) := by decide +kernel
theorem dX6_takeCodes_12 : decode cX6_takeCodes 12 = .ok (.getfield 7, 3) := by decide +kernel
theorem dX6_takeCodes_15 : decode cX6_takeCodes 15 = .ok (.iconst 0, 1) := by decide +kernel
theorem dX6_takeCodes_16 : decode cX6_takeCodes 16 = .ok (.iload_n 3, 1) := by decide +kernel
theorem dX6_takeCodes_17 : decode cX6_takeCodes 17 = .ok (.iadd, 1) := by decide +kernel
theorem dX6_takeCodes_18 : decode cX6_takeCodes 18 = .ok (.iaload, 1) := by decide +kernel
theorem dX6_takeCodes_19 : decode cX6_takeCodes 19 = .ok (.invokevirtual 63, 3) := by decide +kernel
theorem dX6_takeCodes_22 : decode cX6_takeCodes 22 = .ok (.ifCond .eq 37, 3) := by decide +kernel
theorem dX6_takeCodes_25 : decode cX6_takeCodes 25 = .ok (.iload_n 1, 1) := by decide +kernel
theorem dX6_takeCodes_26 : decode cX6_takeCodes 26 = .ok (.iload_n 2, 1) := by decide +kernel
theorem dX6_takeCodes_27 : decode cX6_takeCodes 27 = .ok (.ishr, 1) := by decide +kernel
theorem dX6_takeCodes_28 : decode cX6_takeCodes 28 = .ok (.iconst 1, 1) := by decide +kernel
theorem dX6_takeCodes_29 : decode cX6_takeCodes 29 = .ok (.iand, 1) := by decide +kernel
theorem dX6_takeCodes_30 : decode cX6_takeCodes 30 = .ok (.ifCond .ne 9, 3) := by decide +kernel
theorem dX6_takeCodes_33 : decode cX6_takeCodes 33 = .ok (.iinc 2 1, 3) := by decide +kernel
theorem dX6_takeCodes_36 : decode cX6_takeCodes 36 = .ok (.goto (-11), 3) := by decide +kernel
theorem dX6_takeCodes_39 : decode cX6_takeCodes 39 = .ok (.aload_n 0, 1) := by decide +kernel
theorem dX6_takeCodes_40 : decode cX6_takeCodes 40 = .ok (.getfield 7, 3) := by decide +kernel
theorem dX6_takeCodes_43 : decode cX6_takeCodes 43 = .ok (.bipush 10, 2) := by decide +kernel
theorem dX6_takeCodes_45 : decode cX6_takeCodes 45 = .ok (.aload_n 0, 1) := by decide +kernel
theorem dX6_takeCodes_46 : decode cX6_takeCodes 46 = .ok (.getfield 7, 3) := by decide +kernel
theorem dX6_takeCodes_49 : decode cX6_takeCodes 49 = .ok (.iconst 0, 1) := by decide +kernel
theorem dX6_takeCodes_50 : decode cX6_takeCodes 50 = .ok (.iload_n 3, 1) := by decide +kernel
theorem dX6_takeCodes_51 : decode cX6_takeCodes 51 = .ok (.iadd, 1) := by decide +kernel
theorem dX6_takeCodes_52 : decode cX6_takeCodes 52 = .ok (.iaload, 1) := by decide +kernel
theorem dX6_takeCodes_53 : decode cX6_takeCodes 53 = .ok (.iadd, 1) := by decide +kernel
theorem dX6_takeCodes_54 : decode cX6_takeCodes 54 = .ok (.iload_n 2, 1) := by decide +kernel
theorem dX6_takeCodes_55 : decode cX6_takeCodes 55 = .ok (.iastore, 1) := by decide +kernel
theorem dX6_takeCodes_56 : decode cX6_takeCodes 56 = .ok (.iinc 2 1, 3) := by decide +kernel
theorem dX6_takeCodes_59 : decode cX6_takeCodes 59 = .ok (.iinc 3 1, 3) := by decide +kernel
theorem dX6_takeCodes_62 : decode cX6_takeCodes 62 = .ok (.goto (-58), 3) := by decide +kernel
theorem dX6_takeCodes_65 : decode cX6_takeCodes 65 = .ok (.return_, 1) := by decide +kernel
theorem dX6_saveCodes_0 : decode cX6_saveCodes 0 = .ok (.iconst 0, 1) := by decide +kernel
theorem dX6_saveCodes_1 : decode cX6_saveCodes 1 = .ok (.istore_n 1, 1) := by decide +kernel
theorem dX6_saveCodes_2 : decode cX6_saveCodes 2 = .ok (.iload_n 1, 1) := by decide +kernel
theorem dX6_saveCodes_3 : decode cX6_saveCodes 3 = .ok (.bipush 10, 2) := by decide +kernel
theorem dX6_saveCodes_5 : decode cX6_saveCodes 5 = .ok (.if_icmp .ge 24, 3) := by decide +kernel
theorem dX6_saveCodes_8 : decode cX6_saveCodes 8 = .ok (.aload_n 0, 1) := by decide +kernel
theorem dX6_saveCodes_9 : decode cX6_saveCodes 9 = .ok (.getfield 35, 3) := by decide +kernel
theorem dX6_saveCodes_12 : decode cX6_saveCodes 12 = .ok (.iload_n 1, 1) := by decide +kernel
theorem dX6_saveCodes_13 : decode cX6_saveCodes 13 = .ok (.aload_n 0, 1) := by decide +kernel
theorem dX6_saveCodes_14 : decode cX6_saveCodes 14 = .ok (.getfield 7, 3) := by decide +kernel
theorem dX6_saveCodes_17 : decode cX6_saveCodes 17 = .ok (.bipush 10, 2) := by decide +kernel
theorem dX6_saveCodes_19 : decode cX6_saveCodes 19 = .ok (.iload_n 1, 1) := by decide +kernel
theorem dX6_saveCodes_20 : decode cX6_saveCodes 20 = .ok (.iadd, 1) := by decide +kernel
theorem dX6_saveCodes_21 : decode cX6_saveCodes 21 = .ok (.iaload, 1) := by decide +kernel
theorem dX6_saveCodes_22 : decode cX6_saveCodes 22 = .ok (.iastore, 1) := by decide +kernel
theorem dX6_saveCodes_23 : decode cX6_saveCodes 23 = .ok (.iinc 1 1, 3) := by decide +kernel
theorem dX6_saveCodes_26 : decode cX6_saveCodes 26 = .ok (.goto (-24), 3) := by decide +kernel
theorem dX6_saveCodes_29 : decode cX6_saveCodes 29 = .ok (.return_, 1) := by decide +kernel
theorem dX6_loadCodes_0 : decode cX6_loadCodes 0 = .ok (.iconst 0, 1) := by decide +kernel
theorem dX6_loadCodes_1 : decode cX6_loadCodes 1 = .ok (.istore_n 1, 1) := by decide +kernel
theorem dX6_loadCodes_2 : decode cX6_loadCodes 2 = .ok (.iload_n 1, 1) := by decide +kernel
theorem dX6_loadCodes_3 : decode cX6_loadCodes 3 = .ok (.bipush 10, 2) := by decide +kernel
theorem dX6_loadCodes_5 : decode cX6_loadCodes 5 = .ok (.if_icmp .ge 24, 3) := by decide +kernel
theorem dX6_loadCodes_8 : decode cX6_loadCodes 8 = .ok (.aload_n 0, 1) := by decide +kernel
theorem dX6_loadCodes_9 : decode cX6_loadCodes 9 = .ok (.getfield 7, 3) := by decide +kernel
theorem dX6_loadCodes_12 : decode cX6_loadCodes 12 = .ok (.bipush 10, 2) := by decide +kernel
theorem dX6_loadCodes_14 : decode cX6_loadCodes 14 = .ok (.iload_n 1, 1) := by decide +kernel
theorem dX6_loadCodes_15 : decode cX6_loadCodes 15 = .ok (.iadd, 1) := by decide +kernel
theorem dX6_loadCodes_16 : decode cX6_loadCodes 16 = .ok (.aload_n 0, 1) := by decide +kernel
theorem dX6_loadCodes_17 : decode cX6_loadCodes 17 = .ok (.getfield 35, 3) := by decide +kernel
theorem dX6_loadCodes_20 : decode cX6_loadCodes 20 = .ok (.iload_n 1, 1) := by decide +kernel
theorem dX6_loadCodes_21 : decode cX6_loadCodes 21 = .ok (.iaload, 1) := by decide +kernel
theorem dX6_loadCodes_22 : decode cX6_loadCodes 22 = .ok (.iastore, 1) := by decide +kernel
theorem dX6_loadCodes_23 : decode cX6_loadCodes 23 = .ok (.iinc 1 1, 3) := by decide +kernel
theorem dX6_loadCodes_26 : decode cX6_loadCodes 26 = .ok (.goto (-24), 3) := by decide +kernel
theorem dX6_loadCodes_29 : decode cX6_loadCodes 29 = .ok (.return_, 1) := by decide +kernel
theorem dX6_isAhead_0 : decode cX6_isAhead 0 = .ok (.iload_n 0, 1) := by decide +kernel
theorem dX6_isAhead_1 : decode cX6_isAhead 1 = .ok (.iload_n 1, 1) := by decide +kernel
theorem dX6_isAhead_2 : decode cX6_isAhead 2 = .ok (.ixor, 1) := by decide +kernel
theorem dX6_isAhead_3 : decode cX6_isAhead 3 = .ok (.istore_n 2, 1) := by decide +kernel
theorem dX6_isAhead_4 : decode cX6_isAhead 4 = .ok (.iload_n 0, 1) := by decide +kernel
theorem dX6_isAhead_5 : decode cX6_isAhead 5 = .ok (.iload_n 2, 1) := by decide +kernel
theorem dX6_isAhead_6 : decode cX6_isAhead 6 = .ok (.iand, 1) := by decide +kernel
theorem dX6_isAhead_7 : decode cX6_isAhead 7 = .ok (.iload_n 2, 1) := by decide +kernel
theorem dX6_isAhead_8 : decode cX6_isAhead 8 = .ok (.ineg, 1) := by decide +kernel
theorem dX6_isAhead_9 : decode cX6_isAhead 9 = .ok (.iand, 1) := by decide +kernel
theorem dX6_isAhead_10 : decode cX6_isAhead 10 = .ok (.ifCond .eq 7, 3) := by decide +kernel
theorem dX6_isAhead_13 : decode cX6_isAhead 13 = .ok (.iconst 1, 1) := by decide +kernel
theorem dX6_isAhead_14 : decode cX6_isAhead 14 = .ok (.goto 4, 3) := by decide +kernel
theorem dX6_isAhead_17 : decode cX6_isAhead 17 = .ok (.iconst 0, 1) := by decide +kernel
theorem dX6_isAhead_18 : decode cX6_isAhead 18 = .ok (.ireturn, 1) := by decide +kernel
set_option maxRecDepth 20000 in
theorem ggX6_tryPlan_X6_takeCodes : GoodIn wsX6_tryPlan wsX6_takeCodes := goodIn_r _ [11, 1, 12, 13, 14, 10, 15, 41, 42, 43, 44, 45, 46, 47, 48, 49, 50, 51, 52, 53, 54, 55, 56] (by decide +kernel) (by decide +kernel)
set_option maxRecDepth 20000 in
theorem gX6_tryPlan_X6_takeCodes : GoodIn wsX6_tryPlan (wsV RX6 96 RX6 yX6_takeCodes wsX6_takeCodes) := goodIn_app (goodIn_of _ (by decide +kernel)) ggX6_tryPlan_X6_takeCodes
set_option maxRecDepth 20000 in
theorem ggX6_tryPlan_X6_goRun : GoodIn wsX6_tryPlan wsX6_goRun := goodIn_r _ [19, 1, 2, 20, 21, 22, 23, 10, 24, 25, 26, 27, 28, 29, 30, 31, 32, 33, 34, 35, 36, 37, 41, 42, 43, 44, 45, 46, 47, 48, 49, 50, 51, 52, 53, 54, 55, 56] (by decide +kernel) (by decide +kernel)
set_option maxRecDepth 20000 in
theorem gX6_tryPlan_X6_goRun : GoodIn wsX6_tryPlan (wsV RX6 87 RX6 yX6_goRun wsX6_goRun) := goodIn_app (goodIn_of _ (by decide +kernel)) ggX6_tryPlan_X6_goRun
set_option maxRecDepth 20000 in
theorem ggX6_tryPlan_X6_isAhead : GoodIn wsX6_tryPlan wsX6_isAhead := goodIn_r _ [40] (by decide +kernel) (by decide +kernel)
set_option maxRecDepth 20000 in
theorem gX6_tryPlan_X6_isAhead : GoodIn wsX6_tryPlan (va_wsS RX6 111 yX6_isAhead wsX6_isAhead) := goodIn_app (goodIn_of _ (by decide +kernel)) ggX6_tryPlan_X6_isAhead
theorem dX6_tryPlan_0 : decode cX6_tryPlan 0 = .ok (.aload_n 0, 1) := by decide +kernel
theorem dX6_tryPlan_1 : decode cX6_tryPlan 1 = .ok (.iload_n 1, 1) := by decide +kernel
theorem dX6_tryPlan_2 : decode cX6_tryPlan 2 = .ok (.invokevirtual 96, 3) := by decide +kernel
theorem dX6_tryPlan_5 : decode cX6_tryPlan 5 = .ok (.aload_n 0, 1) := by decide +kernel
theorem dX6_tryPlan_6 : decode cX6_tryPlan 6 = .ok (.iload_n 2, 1) := by decide +kernel
theorem dX6_tryPlan_7 : decode cX6_tryPlan 7 = .ok (.invokevirtual 87, 3) := by decide +kernel
theorem dX6_tryPlan_10 : decode cX6_tryPlan 10 = .ok (.aload_n 0, 1) := by decide +kernel
theorem dX6_tryPlan_11 : decode cX6_tryPlan 11 = .ok (.getfield 7, 3) := by decide +kernel
theorem dX6_tryPlan_14 : decode cX6_tryPlan 14 = .ok (.bipush 25, 2) := by decide +kernel
theorem dX6_tryPlan_16 : decode cX6_tryPlan 16 = .ok (.iaload, 1) := by decide +kernel
theorem dX6_tryPlan_17 : decode cX6_tryPlan 17 = .ok (.aload_n 0, 1) := by decide +kernel
theorem dX6_tryPlan_18 : decode cX6_tryPlan 18 = .ok (.getfield 70, 3) := by decide +kernel
theorem dX6_tryPlan_21 : decode cX6_tryPlan 21 = .ok (.isub, 1) := by decide +kernel
theorem dX6_tryPlan_22 : decode cX6_tryPlan 22 = .ok (.istore_n 3, 1) := by decide +kernel
theorem dX6_tryPlan_23 : decode cX6_tryPlan 23 = .ok (.aload_n 0, 1) := by decide +kernel
theorem dX6_tryPlan_24 : decode cX6_tryPlan 24 = .ok (.dup, 1) := by decide +kernel
theorem dX6_tryPlan_25 : decode cX6_tryPlan 25 = .ok (.getfield 99, 3) := by decide +kernel
theorem dX6_tryPlan_28 : decode cX6_tryPlan 28 = .ok (.iconst 1, 1) := by decide +kernel
theorem dX6_tryPlan_29 : decode cX6_tryPlan 29 = .ok (.iadd, 1) := by decide +kernel
theorem dX6_tryPlan_30 : decode cX6_tryPlan 30 = .ok (.putfield 99, 3) := by decide +kernel
theorem dX6_tryPlan_33 : decode cX6_tryPlan 33 = .ok (.aload_n 0, 1) := by decide +kernel
theorem dX6_tryPlan_34 : decode cX6_tryPlan 34 = .ok (.getfield 102, 3) := by decide +kernel
theorem dX6_tryPlan_37 : decode cX6_tryPlan 37 = .ok (.ifCond .lt 11, 3) := by decide +kernel
theorem dX6_tryPlan_40 : decode cX6_tryPlan 40 = .ok (.iload_n 3, 1) := by decide +kernel
theorem dX6_tryPlan_41 : decode cX6_tryPlan 41 = .ok (.aload_n 0, 1) := by decide +kernel
theorem dX6_tryPlan_42 : decode cX6_tryPlan 42 = .ok (.getfield 105, 3) := by decide +kernel
theorem dX6_tryPlan_45 : decode cX6_tryPlan 45 = .ok (.if_icmp .ge 18, 3) := by decide +kernel
theorem dX6_tryPlan_48 : decode cX6_tryPlan 48 = .ok (.aload_n 0, 1) := by decide +kernel
theorem dX6_tryPlan_49 : decode cX6_tryPlan 49 = .ok (.iload_n 3, 1) := by decide +kernel
theorem dX6_tryPlan_50 : decode cX6_tryPlan 50 = .ok (.putfield 105, 3) := by decide +kernel
theorem dX6_tryPlan_53 : decode cX6_tryPlan 53 = .ok (.aload_n 0, 1) := by decide +kernel
theorem dX6_tryPlan_54 : decode cX6_tryPlan 54 = .ok (.iconst 0, 1) := by decide +kernel
theorem dX6_tryPlan_55 : decode cX6_tryPlan 55 = .ok (.putfield 108, 3) := by decide +kernel
theorem dX6_tryPlan_58 : decode cX6_tryPlan 58 = .ok (.aload_n 0, 1) := by decide +kernel
theorem dX6_tryPlan_59 : decode cX6_tryPlan 59 = .ok (.iload_n 1, 1) := by decide +kernel
theorem dX6_tryPlan_60 : decode cX6_tryPlan 60 = .ok (.putfield 102, 3) := by decide +kernel
theorem dX6_tryPlan_63 : decode cX6_tryPlan 63 = .ok (.iload_n 3, 1) := by decide +kernel
theorem dX6_tryPlan_64 : decode cX6_tryPlan 64 = .ok (.aload_n 0, 1) := by decide +kernel
theorem dX6_tryPlan_65 : decode cX6_tryPlan 65 = .ok (.getfield 105, 3) := by decide +kernel
theorem dX6_tryPlan_68 : decode cX6_tryPlan 68 = .ok (.if_icmp .ne 36, 3) := by decide +kernel
theorem dX6_tryPlan_71 : decode cX6_tryPlan 71 = .ok (.aload_n 0, 1) := by decide +kernel
theorem dX6_tryPlan_72 : decode cX6_tryPlan 72 = .ok (.dup, 1) := by decide +kernel
theorem dX6_tryPlan_73 : decode cX6_tryPlan 73 = .ok (.getfield 108, 3) := by decide +kernel
theorem dX6_tryPlan_76 : decode cX6_tryPlan 76 = .ok (.iconst 1, 1) := by decide +kernel
theorem dX6_tryPlan_77 : decode cX6_tryPlan 77 = .ok (.iadd, 1) := by decide +kernel
theorem dX6_tryPlan_78 : decode cX6_tryPlan 78 = .ok (.putfield 108, 3) := by decide +kernel
theorem dX6_tryPlan_81 : decode cX6_tryPlan 81 = .ok (.aload_n 0, 1) := by decide +kernel
theorem dX6_tryPlan_82 : decode cX6_tryPlan 82 = .ok (.iload_n 1, 1) := by decide +kernel
theorem dX6_tryPlan_83 : decode cX6_tryPlan 83 = .ok (.aload_n 0, 1) := by decide +kernel
theorem dX6_tryPlan_84 : decode cX6_tryPlan 84 = .ok (.getfield 102, 3) := by decide +kernel
theorem dX6_tryPlan_87 : decode cX6_tryPlan 87 = .ok (.invokestatic 111, 3) := by decide +kernel
theorem dX6_tryPlan_90 : decode cX6_tryPlan 90 = .ok (.ifCond .eq 7, 3) := by decide +kernel
theorem dX6_tryPlan_93 : decode cX6_tryPlan 93 = .ok (.iload_n 1, 1) := by decide +kernel
theorem dX6_tryPlan_94 : decode cX6_tryPlan 94 = .ok (.goto 7, 3) := by decide +kernel
theorem dX6_tryPlan_97 : decode cX6_tryPlan 97 = .ok (.aload_n 0, 1) := by decide +kernel
theorem dX6_tryPlan_98 : decode cX6_tryPlan 98 = .ok (.getfield 102, 3) := by decide +kernel
theorem dX6_tryPlan_101 : decode cX6_tryPlan 101 = .ok (.putfield 102, 3) := by decide +kernel
theorem dX6_tryPlan_104 : decode cX6_tryPlan 104 = .ok (.return_, 1) := by decide +kernel
set_option maxRecDepth 20000 in
theorem ggX6_layBest_X6_usedMany : GoodIn wsX6_layBest wsX6_usedMany := goodIn_r _ [9, 10, 11, 12, 8, 13, 14, 65, 66, 67, 68, 69, 70, 71, 72, 73, 74, 75, 76, 77, 78, 79, 80] (by decide +kernel) (by decide +kernel)
set_option maxRecDepth 20000 in
theorem gX6_layBest_X6_usedMany : GoodIn wsX6_layBest (wsV RX6 115 RX6 yX6_usedMany wsX6_usedMany) := goodIn_app (goodIn_of _ (by decide +kernel)) ggX6_layBest_X6_usedMany
set_option maxRecDepth 20000 in
theorem ggX6_layBest_X6_saveCodes : GoodIn wsX6_layBest wsX6_saveCodes := goodIn_r _ [18, 19, 14, 65, 66, 67, 68, 69, 70, 71, 72, 73, 74, 75, 76, 77, 78, 79, 80] (by decide +kernel) (by decide +kernel)
set_option maxRecDepth 20000 in
theorem gX6_layBest_X6_saveCodes : GoodIn wsX6_layBest (wsV RX6 118 RX6 yX6_saveCodes wsX6_saveCodes) := goodIn_app (goodIn_of _ (by decide +kernel)) ggX6_layBest_X6_saveCodes
set_option maxRecDepth 20000 in
theorem ggX6_layBest_X6_power : GoodIn wsX6_layBest wsX6_power := goodIn_r _ [23, 14, 65, 66, 67, 68, 69, 70, 71, 72, 73, 74, 75, 76, 77, 78, 79, 80] (by decide +kernel) (by decide +kernel)
set_option maxRecDepth 20000 in
theorem gX6_layBest_X6_power : GoodIn wsX6_layBest (wsV RX6 121 RX6 yX6_power wsX6_power) := goodIn_app (goodIn_of _ (by decide +kernel)) ggX6_layBest_X6_power
set_option maxRecDepth 20000 in
theorem ggX6_layBest_X6_size : GoodIn wsX6_layBest wsX6_size := goodIn_r _ [26] (by decide +kernel) (by decide +kernel)
set_option maxRecDepth 20000 in
theorem gX6_layBest_X6_size : GoodIn wsX6_layBest (va_wsS RX6 124 yX6_size wsX6_size) := goodIn_app (goodIn_of _ (by decide +kernel)) ggX6_layBest_X6_size
set_option maxRecDepth 20000 in
theorem ggX6_layBest_X6_tryPlan : GoodIn wsX6_layBest wsX6_tryPlan := goodIn_r _ [30, 14, 31, 1, 3, 4, 2, 32, 33, 34, 8, 35, 10, 11, 12, 13, 36, 37, 38, 39, 40, 41, 42, 43, 44, 45, 46, 47, 48, 49, 50, 51, 52, 53, 54, 55, 56, 57, 58, 59, 60, 65, 66, 67, 68, 69, 70, 71, 72, 73, 74, 75, 76, 77, 78, 79, 80] (by decide +kernel) (by decide +kernel)
set_option maxRecDepth 20000 in
theorem gX6_layBest_X6_tryPlan : GoodIn wsX6_layBest (wsV RX6 127 RX6 yX6_tryPlan wsX6_tryPlan) := goodIn_app (goodIn_of _ (by decide +kernel)) ggX6_layBest_X6_tryPlan
set_option maxRecDepth 20000 in
theorem ggX6_layBest_X6_loadCodes : GoodIn wsX6_layBest wsX6_loadCodes := goodIn_r _ [64, 14, 19, 65, 66, 67, 68, 69, 70, 71, 72, 73, 74, 75, 76, 77, 78, 79, 80] (by decide +kernel) (by decide +kernel)
set_option maxRecDepth 20000 in
theorem gX6_layBest_X6_loadCodes : GoodIn wsX6_layBest (wsV RX6 131 RX6 yX6_loadCodes wsX6_loadCodes) := goodIn_app (goodIn_of _ (by decide +kernel)) ggX6_layBest_X6_loadCodes
theorem dX6_layBest_0 : decode cX6_layBest 0 = .ok (.aload_n 0, 1) := by decide +kernel
theorem dX6_layBest_1 : decode cX6_layBest 1 = .ok (.iconst 0, 1) := by decide +kernel
theorem dX6_layBest_2 : decode cX6_layBest 2 = .ok (.putfield 99, 3) := by decide +kernel
theorem dX6_layBest_5 : decode cX6_layBest 5 = .ok (.aload_n 0, 1) := by decide +kernel
theorem dX6_layBest_6 : decode cX6_layBest 6 = .ok (.iconst 0, 1) := by decide +kernel
theorem dX6_layBest_7 : decode cX6_layBest 7 = .ok (.putfield 108, 3) := by decide +kernel
theorem dX6_layBest_10 : decode cX6_layBest 10 = .ok (.aload_n 0, 1) := by decide +kernel
theorem dX6_layBest_11 : decode cX6_layBest 11 = .ok (.bipush (-6), 2) := by decide +kernel
theorem dX6_layBest_13 : decode cX6_layBest 13 = .ok (.putfield 102, 3) := by decide +kernel
theorem dX6_layBest_16 : decode cX6_layBest 16 = .ok (.aload_n 0, 1) := by decide +kernel
theorem dX6_layBest_17 : decode cX6_layBest 17 = .ok (.bipush (-6), 2) := by decide +kernel
theorem dX6_layBest_19 : decode cX6_layBest 19 = .ok (.putfield 105, 3) := by decide +kernel
theorem dX6_layBest_22 : decode cX6_layBest 22 = .ok (.aload_n 0, 1) := by decide +kernel
theorem dX6_layBest_23 : decode cX6_layBest 23 = .ok (.invokevirtual 115, 3) := by decide +kernel
theorem dX6_layBest_26 : decode cX6_layBest 26 = .ok (.istore_n 2, 1) := by decide +kernel
theorem dX6_layBest_27 : decode cX6_layBest 27 = .ok (.aload_n 0, 1) := by decide +kernel
theorem dX6_layBest_28 : decode cX6_layBest 28 = .ok (.invokevirtual 118, 3) := by decide +kernel
theorem dX6_layBest_31 : decode cX6_layBest 31 = .ok (.iconst 0, 1) := by decide +kernel
theorem dX6_layBest_32 : decode cX6_layBest 32 = .ok (.istore_n 3, 1) := by decide +kernel
theorem dX6_layBest_33 : decode cX6_layBest 33 = .ok (.iload_n 3, 1) := by decide +kernel
theorem dX6_layBest_34 : decode cX6_layBest 34 = .ok (.iconst 1, 1) := by decide +kernel
theorem dX6_layBest_35 : decode cX6_layBest 35 = .ok (.aload_n 0, 1) := by decide +kernel
theorem dX6_layBest_36 : decode cX6_layBest 36 = .ok (.iload_n 1, 1) := by decide +kernel
theorem dX6_layBest_37 : decode cX6_layBest 37 = .ok (.invokevirtual 121, 3) := by decide +kernel
theorem dX6_layBest_40 : decode cX6_layBest 40 = .ok (.ishl, 1) := by decide +kernel
theorem dX6_layBest_41 : decode cX6_layBest 41 = .ok (.if_icmp .ge 23, 3) := by decide +kernel
theorem dX6_layBest_44 : decode cX6_layBest 44 = .ok (.iload_n 3, 1) := by decide +kernel
theorem dX6_layBest_45 : decode cX6_layBest 45 = .ok (.invokestatic 124, 3) := by decide +kernel
theorem dX6_layBest_48 : decode cX6_layBest 48 = .ok (.iload_n 2, 1) := by decide +kernel
theorem dX6_layBest_49 : decode cX6_layBest 49 = .ok (.if_icmp .ne 9, 3) := by decide +kernel
theorem dX6_layBest_52 : decode cX6_layBest 52 = .ok (.aload_n 0, 1) := by decide +kernel
theorem dX6_layBest_53 : decode cX6_layBest 53 = .ok (.iload_n 3, 1) := by decide +kernel
theorem dX6_layBest_54 : decode cX6_layBest 54 = .ok (.iload_n 1, 1) := by decide +kernel
theorem dX6_layBest_55 : decode cX6_layBest 55 = .ok (.invokevirtual 127, 3) := by decide +kernel
theorem dX6_layBest_58 : decode cX6_layBest 58 = .ok (.iinc 3 1, 3) := by decide +kernel
theorem dX6_layBest_61 : decode cX6_layBest 61 = .ok (.goto (-28), 3) := by decide +kernel
theorem dX6_layBest_64 : decode cX6_layBest 64 = .ok (.aload_n 0, 1) := by decide +kernel
theorem dX6_layBest_65 : decode cX6_layBest 65 = .ok (.invokevirtual 131, 3) := by decide +kernel
theorem dX6_layBest_68 : decode cX6_layBest 68 = .ok (.return_, 1) := by decide +kernel
set_option maxRecDepth 20000 in
theorem ggX6_codeOf_X6_isUsed : GoodIn wsX6_codeOf wsX6_isUsed := goodIn_r _ [7, 2, 21, 22, 23, 24, 25, 26, 27, 28, 29, 30, 31, 32, 33, 34, 35, 36] (by decide +kernel) (by decide +kernel)
set_option maxRecDepth 20000 in
theorem gX6_codeOf_X6_isUsed : GoodIn wsX6_codeOf (wsV RX6 63 RX6 yX6_isUsed wsX6_isUsed) := goodIn_app (goodIn_of _ (by decide +kernel)) ggX6_codeOf_X6_isUsed
set_option maxRecDepth 20000 in
theorem ggX6_codeOf_X6_saveCodes : GoodIn wsX6_codeOf wsX6_saveCodes := goodIn_r _ [11, 12, 2, 21, 22, 23, 24, 25, 26, 27, 28, 29, 30, 31, 32, 33, 34, 35, 36] (by decide +kernel) (by decide +kernel)
set_option maxRecDepth 20000 in
theorem gX6_codeOf_X6_saveCodes : GoodIn wsX6_codeOf (wsV RX6 118 RX6 yX6_saveCodes wsX6_saveCodes) := goodIn_app (goodIn_of _ (by decide +kernel)) ggX6_codeOf_X6_saveCodes
set_option maxRecDepth 20000 in
theorem ggX6_codeOf_X6_takeCodes : GoodIn wsX6_codeOf wsX6_takeCodes := goodIn_r _ [16, 2, 3, 4, 5, 6, 7, 21, 22, 23, 24, 25, 26, 27, 28, 29, 30, 31, 32, 33, 34, 35, 36] (by decide +kernel) (by decide +kernel)
set_option maxRecDepth 20000 in
theorem gX6_codeOf_X6_takeCodes : GoodIn wsX6_codeOf (wsV RX6 96 RX6 yX6_takeCodes wsX6_takeCodes) := goodIn_app (goodIn_of _ (by decide +kernel)) ggX6_codeOf_X6_takeCodes
set_option maxRecDepth 20000 in
theorem ggX6_codeOf_X6_loadCodes : GoodIn wsX6_codeOf wsX6_loadCodes := goodIn_r _ [20, 2, 12, 21, 22, 23, 24, 25, 26, 27, 28, 29, 30, 31, 32, 33, 34, 35, 36] (by decide +kernel) (by decide +kernel)
set_option maxRecDepth 20000 in
theorem gX6_codeOf_X6_loadCodes : GoodIn wsX6_codeOf (wsV RX6 131 RX6 yX6_loadCodes wsX6_loadCodes) := goodIn_app (goodIn_of _ (by decide +kernel)) ggX6_codeOf_X6_loadCodes
theorem dX6_codeOf_0 : decode cX6_codeOf 0 = .ok (.aload_n 0, 1) := by decide +kernel
theorem dX6_codeOf_1 : decode cX6_codeOf 1 = .ok (.iload_n 1, 1) := by decide +kernel
theorem dX6_codeOf_2 : decode cX6_codeOf 2 = .ok (.invokevirtual 63, 3) := by decide +kernel
theorem dX6_codeOf_5 : decode cX6_codeOf 5 = .ok (.ifCond .ne 6, 3) := by decide +kernel
theorem dX6_codeOf_8 : decode cX6_codeOf 8 = .ok (.bipush (-6), 2) := by decide +kernel
theorem dX6_codeOf_10 : decode cX6_codeOf 10 = .ok (.ireturn, 1) := by decide +kernel
theorem dX6_codeOf_11 : decode cX6_codeOf 11 = .ok (.aload_n 0, 1) := by decide +kernel
theorem dX6_codeOf_12 : decode cX6_codeOf 12 = .ok (.invokevirtual 118, 3) := by decide +kernel
theorem dX6_codeOf_15 : decode cX6_codeOf 15 = .ok (.aload_n 0, 1) := by decide +kernel
theorem dX6_codeOf_16 : decode cX6_codeOf 16 = .ok (.aload_n 0, 1) := by decide +kernel
theorem dX6_codeOf_17 : decode cX6_codeOf 17 = .ok (.getfield 102, 3) := by decide +kernel
theorem dX6_codeOf_20 : decode cX6_codeOf 20 = .ok (.invokevirtual 96, 3) := by decide +kernel
theorem dX6_codeOf_23 : decode cX6_codeOf 23 = .ok (.aload_n 0, 1) := by decide +kernel
theorem dX6_codeOf_24 : decode cX6_codeOf 24 = .ok (.getfield 7, 3) := by decide +kernel
theorem dX6_codeOf_27 : decode cX6_codeOf 27 = .ok (.bipush 10, 2) := by decide +kernel
theorem dX6_codeOf_29 : decode cX6_codeOf 29 = .ok (.iload_n 1, 1) := by decide +kernel
theorem dX6_codeOf_30 : decode cX6_codeOf 30 = .ok (.iadd, 1) := by decide +kernel
theorem dX6_codeOf_31 : decode cX6_codeOf 31 = .ok (.iaload, 1) := by decide +kernel
theorem dX6_codeOf_32 : decode cX6_codeOf 32 = .ok (.istore_n 2, 1) := by decide +kernel
theorem dX6_codeOf_33 : decode cX6_codeOf 33 = .ok (.aload_n 0, 1) := by decide +kernel
theorem dX6_codeOf_34 : decode cX6_codeOf 34 = .ok (.invokevirtual 131, 3) := by decide +kernel
theorem dX6_codeOf_37 : decode cX6_codeOf 37 = .ok (.iload_n 2, 1) := by decide +kernel
theorem dX6_codeOf_38 : decode cX6_codeOf 38 = .ok (.ireturn, 1) := by decide +kernel
set_option maxRecDepth 20000 in
theorem ggX6_best_X6_isRun : GoodIn wsX6_best wsX6_isRun := goodIn_r _ [7, 8, 9, 6, 10] (by decide +kernel) (by decide +kernel)
set_option maxRecDepth 20000 in
theorem gX6_best_X6_isRun : GoodIn wsX6_best (va_wsS RX6 84 yX6_isRun wsX6_isRun) := goodIn_app (goodIn_of _ (by decide +kernel)) ggX6_best_X6_isRun
set_option maxRecDepth 20000 in
theorem ggX6_best_X6_in : GoodIn wsX6_best wsX6_in := goodIn_r _ [10] (by decide +kernel) (by decide +kernel)
set_option maxRecDepth 20000 in
theorem gX6_best_X6_in : GoodIn wsX6_best (va_wsS RX6 41 yX6_in wsX6_in) := goodIn_app (goodIn_of _ (by decide +kernel)) ggX6_best_X6_in
set_option maxRecDepth 20000 in
theorem ggX6_best_X6_power : GoodIn wsX6_best wsX6_power := goodIn_r _ [14, 15, 79, 80, 81, 82, 83, 84, 85, 86, 87, 88, 89, 90, 91, 92, 93, 94] (by decide +kernel) (by decide +kernel)
set_option maxRecDepth 20000 in
theorem gX6_best_X6_power : GoodIn wsX6_best (wsV RX6 121 RX6 yX6_power wsX6_power) := goodIn_app (goodIn_of _ (by decide +kernel)) ggX6_best_X6_power
set_option maxRecDepth 20000 in
theorem ggX6_best_X6_layBest : GoodIn wsX6_best wsX6_layBest := goodIn_r _ [19, 1, 3, 20, 2, 21, 22, 23, 6, 24, 25, 26, 27, 28, 15, 29, 30, 31, 32, 33, 11, 12, 13, 14, 34, 35, 36, 37, 38, 39, 40, 41, 42, 43, 44, 45, 46, 47, 48, 49, 50, 51, 52, 53, 54, 55, 56, 57, 58, 59, 60, 61, 62, 63, 64, 65, 66, 67, 68, 69, 70, 71, 72, 73, 74, 79, 80, 81, 82, 83, 84, 85, 86, 87, 88, 89, 90, 91, 92, 93, 94] (by decide +kernel) (by decide +kernel)
set_option maxRecDepth 20000 in
theorem gX6_best_X6_layBest : GoodIn wsX6_best (wsV RX6 134 RX6 yX6_layBest wsX6_layBest) := goodIn_app (goodIn_of _ (by decide +kernel)) ggX6_best_X6_layBest
set_option maxRecDepth 20000 in
theorem ggX6_best_X6_codeOf : GoodIn wsX6_best wsX6_codeOf := goodIn_r _ [78, 20, 15, 25, 26, 27, 6, 28, 29, 30, 31, 32, 33, 42, 43, 44, 45, 71, 72, 73, 74, 79, 80, 81, 82, 83, 84, 85, 86, 87, 88, 89, 90, 91, 92, 93, 94] (by decide +kernel) (by decide +kernel)
set_option maxRecDepth 20000 in
theorem gX6_best_X6_codeOf : GoodIn wsX6_best (wsV RX6 137 RX6 yX6_codeOf wsX6_codeOf) := goodIn_app (goodIn_of _ (by decide +kernel)) ggX6_best_X6_codeOf
theorem dX6_best_0 : decode cX6_best 0 = .ok (.iload_n 1, 1) := by decide +kernel
theorem dX6_best_1 : decode cX6_best 1 = .ok (.invokestatic 84, 3) := by decide +kernel
theorem dX6_best_4 : decode cX6_best 4 = .ok (.ifCond .eq 23, 3) := by decide +kernel
theorem dX6_best_7 : decode cX6_best 7 = .ok (.iload_n 2, 1) := by decide +kernel
theorem dX6_best_8 : decode cX6_best 8 = .ok (.iconst 0, 1) := by decide +kernel
theorem dX6_best_9 : decode cX6_best 9 = .ok (.iconst 2, 1) := by decide +kernel
theorem dX6_best_10 : decode cX6_best 10 = .ok (.invokestatic 41, 3) := by decide +kernel
theorem dX6_best_13 : decode cX6_best 13 = .ok (.ifCond .ne 17, 3) := by decide +kernel
theorem dX6_best_16 : decode cX6_best 16 = .ok (.iload_n 2, 1) := by decide +kernel
theorem dX6_best_17 : decode cX6_best 17 = .ok (.bipush 10, 2) := by decide +kernel
theorem dX6_best_19 : decode cX6_best 19 = .ok (.bipush 19, 2) := by decide +kernel
theorem dX6_best_21 : decode cX6_best 21 = .ok (.invokestatic 41, 3) := by decide +kernel
theorem dX6_best_24 : decode cX6_best 24 = .ok (.ifCond .ne 6, 3) := by decide +kernel
theorem dX6_best_27 : decode cX6_best 27 = .ok (.bipush (-2), 2) := by decide +kernel
theorem dX6_best_29 : decode cX6_best 29 = .ok (.ireturn, 1) := by decide +kernel
theorem dX6_best_30 : decode cX6_best 30 = .ok (.aload_n 0, 1) := by decide +kernel
theorem dX6_best_31 : decode cX6_best 31 = .ok (.iload_n 1, 1) := by decide +kernel
theorem dX6_best_32 : decode cX6_best 32 = .ok (.invokevirtual 121, 3) := by decide +kernel
theorem dX6_best_35 : decode cX6_best 35 = .ok (.bipush 16, 2) := by decide +kernel
theorem dX6_best_37 : decode cX6_best 37 = .ok (.if_icmp .le 6, 3) := by decide +kernel
theorem dX6_best_40 : decode cX6_best 40 = .ok (.bipush (-5), 2) := by decide +kernel
theorem dX6_best_42 : decode cX6_best 42 = .ok (.ireturn, 1) := by decide +kernel
theorem dX6_best_43 : decode cX6_best 43 = .ok (.aload_n 0, 1) := by decide +kernel
theorem dX6_best_44 : decode cX6_best 44 = .ok (.iload_n 1, 1) := by decide +kernel
theorem dX6_best_45 : decode cX6_best 45 = .ok (.invokevirtual 134, 3) := by decide +kernel
theorem dX6_best_48 : decode cX6_best 48 = .ok (.iload_n 2, 1) := by decide +kernel
theorem dX6_best_49 : decode cX6_best 49 = .ok (.iconst 2, 1) := by decide +kernel
theorem dX6_best_50 : decode cX6_best 50 = .ok (.if_icmp .ne 8, 3) := by decide +kernel
theorem dX6_best_53 : decode cX6_best 53 = .ok (.aload_n 0, 1) := by decide +kernel
theorem dX6_best_54 : decode cX6_best 54 = .ok (.getfield 99, 3) := by decide +kernel
theorem dX6_best_57 : decode cX6_best 57 = .ok (.ireturn, 1) := by decide +kernel
theorem dX6_best_58 : decode cX6_best 58 = .ok (.aload_n 0, 1) := by decide +kernel
theorem dX6_best_59 : decode cX6_best 59 = .ok (.getfield 99, 3) := by decide +kernel
theorem dX6_best_62 : decode cX6_best 62 = .ok (.ifCond .ne 6, 3) := by decide +kernel
theorem dX6_best_65 : decode cX6_best 65 = .ok (.bipush (-6), 2) := by decide +kernel
theorem dX6_best_67 : decode cX6_best 67 = .ok (.ireturn, 1) := by decide +kernel
theorem dX6_best_68 : decode cX6_best 68 = .ok (.iload_n 2, 1) := by decide +kernel
theorem dX6_best_69 : decode cX6_best 69 = .ok (.ifCond .ne 10, 3) := by decide +kernel
theorem dX6_best_72 : decode cX6_best 72 = .ok (.aload_n 0, 1) := by decide +kernel
theorem dX6_best_73 : decode cX6_best 73 = .ok (.getfield 105, 3) := by decide +kernel
theorem dX6_best_76 : decode cX6_best 76 = .ok (.goto 23, 3) := by decide +kernel
theorem dX6_best_79 : decode cX6_best 79 = .ok (.iload_n 2, 1) := by decide +kernel
theorem dX6_best_80 : decode cX6_best 80 = .ok (.iconst 1, 1) := by decide +kernel
theorem dX6_best_81 : decode cX6_best 81 = .ok (.if_icmp .ne 10, 3) := by decide +kernel
theorem dX6_best_84 : decode cX6_best 84 = .ok (.aload_n 0, 1) := by decide +kernel
theorem dX6_best_85 : decode cX6_best 85 = .ok (.getfield 108, 3) := by decide +kernel
theorem dX6_best_88 : decode cX6_best 88 = .ok (.goto 11, 3) := by decide +kernel
theorem dX6_best_91 : decode cX6_best 91 = .ok (.aload_n 0, 1) := by decide +kernel
theorem dX6_best_92 : decode cX6_best 92 = .ok (.iload_n 2, 1) := by decide +kernel
theorem dX6_best_93 : decode cX6_best 93 = .ok (.bipush 10, 2) := by decide +kernel
theorem dX6_best_95 : decode cX6_best 95 = .ok (.isub, 1) := by decide +kernel
theorem dX6_best_96 : decode cX6_best 96 = .ok (.invokevirtual 137, 3) := by decide +kernel
theorem dX6_best_99 : decode cX6_best 99 = .ok (.ireturn, 1) := by decide +kernel
set_option maxRecDepth 20000 in
theorem ggX6_take_X6_isRun : GoodIn wsX6_take wsX6_isRun := goodIn_r _ [7, 8, 9, 6, 10] (by decide +kernel) (by decide +kernel)
set_option maxRecDepth 20000 in
theorem gX6_take_X6_isRun : GoodIn wsX6_take (va_wsS RX6 84 yX6_isRun wsX6_isRun) := goodIn_app (goodIn_of _ (by decide +kernel)) ggX6_take_X6_isRun
set_option maxRecDepth 20000 in
theorem ggX6_take_X6_power : GoodIn wsX6_take wsX6_power := goodIn_r _ [14, 15, 75, 76, 77, 78, 79, 80, 81, 82, 83, 84, 85, 86, 87, 88, 89, 90] (by decide +kernel) (by decide +kernel)
set_option maxRecDepth 20000 in
theorem gX6_take_X6_power : GoodIn wsX6_take (wsV RX6 121 RX6 yX6_power wsX6_power) := goodIn_app (goodIn_of _ (by decide +kernel)) ggX6_take_X6_power
set_option maxRecDepth 20000 in
theorem ggX6_take_X6_layBest : GoodIn wsX6_take wsX6_layBest := goodIn_r _ [19, 1, 20, 2, 3, 21, 22, 23, 6, 24, 25, 26, 27, 28, 15, 29, 30, 31, 32, 33, 11, 12, 13, 14, 34, 35, 36, 37, 38, 39, 40, 41, 42, 43, 44, 45, 46, 47, 48, 49, 50, 51, 52, 53, 54, 55, 56, 57, 58, 59, 60, 61, 62, 63, 64, 65, 66, 67, 68, 69, 70, 71, 72, 73, 74, 75, 76, 77, 78, 79, 80, 81, 82, 83, 84, 85, 86, 87, 88, 89, 90] (by decide +kernel) (by decide +kernel)
set_option maxRecDepth 20000 in
theorem gX6_take_X6_layBest : GoodIn wsX6_take (wsV RX6 134 RX6 yX6_layBest wsX6_layBest) := goodIn_app (goodIn_of _ (by decide +kernel)) ggX6_take_X6_layBest
set_option maxRecDepth 20000 in
theorem ggX6_take_X6_takeCodes : GoodIn wsX6_take wsX6_takeCodes := goodIn_r _ [45, 15, 25, 26, 27, 6, 28, 75, 76, 77, 78, 79, 80, 81, 82, 83, 84, 85, 86, 87, 88, 89, 90] (by decide +kernel) (by decide +kernel)
set_option maxRecDepth 20000 in
theorem gX6_take_X6_takeCodes : GoodIn wsX6_take (wsV RX6 96 RX6 yX6_takeCodes wsX6_takeCodes) := goodIn_app (goodIn_of _ (by decide +kernel)) ggX6_take_X6_takeCodes
theorem dX6_take_0 : decode cX6_take 0 = .ok (.iload_n 1, 1) := by decide +kernel
theorem dX6_take_1 : decode cX6_take 1 = .ok (.invokestatic 84, 3) := by decide +kernel
theorem dX6_take_4 : decode cX6_take 4 = .ok (.ifCond .ne 6, 3) := by decide +kernel
theorem dX6_take_7 : decode cX6_take 7 = .ok (.bipush (-2), 2) := by decide +kernel
theorem dX6_take_9 : decode cX6_take 9 = .ok (.ireturn, 1) := by decide +kernel
theorem dX6_take_10 : decode cX6_take 10 = .ok (.aload_n 0, 1) := by decide +kernel
theorem dX6_take_11 : decode cX6_take 11 = .ok (.iload_n 1, 1) := by decide +kernel
theorem dX6_take_12 : decode cX6_take 12 = .ok (.invokevirtual 121, 3) := by decide +kernel
theorem dX6_take_15 : decode cX6_take 15 = .ok (.bipush 16, 2) := by decide +kernel
theorem dX6_take_17 : decode cX6_take 17 = .ok (.if_icmp .le 6, 3) := by decide +kernel
theorem dX6_take_20 : decode cX6_take 20 = .ok (.bipush (-5), 2) := by decide +kernel
theorem dX6_take_22 : decode cX6_take 22 = .ok (.ireturn, 1) := by decide +kernel
theorem dX6_take_23 : decode cX6_take 23 = .ok (.aload_n 0, 1) := by decide +kernel
theorem dX6_take_24 : decode cX6_take 24 = .ok (.iload_n 1, 1) := by decide +kernel
theorem dX6_take_25 : decode cX6_take 25 = .ok (.invokevirtual 134, 3) := by decide +kernel
theorem dX6_take_28 : decode cX6_take 28 = .ok (.aload_n 0, 1) := by decide +kernel
theorem dX6_take_29 : decode cX6_take 29 = .ok (.getfield 99, 3) := by decide +kernel
theorem dX6_take_32 : decode cX6_take 32 = .ok (.ifCond .ne 6, 3) := by decide +kernel
theorem dX6_take_35 : decode cX6_take 35 = .ok (.bipush (-5), 2) := by decide +kernel
theorem dX6_take_37 : decode cX6_take 37 = .ok (.ireturn, 1) := by decide +kernel
theorem dX6_take_38 : decode cX6_take 38 = .ok (.aload_n 0, 1) := by decide +kernel
theorem dX6_take_39 : decode cX6_take 39 = .ok (.aload_n 0, 1) := by decide +kernel
theorem dX6_take_40 : decode cX6_take 40 = .ok (.getfield 102, 3) := by decide +kernel
theorem dX6_take_43 : decode cX6_take 43 = .ok (.invokevirtual 96, 3) := by decide +kernel
theorem dX6_take_46 : decode cX6_take 46 = .ok (.aload_n 0, 1) := by decide +kernel
theorem dX6_take_47 : decode cX6_take 47 = .ok (.getfield 105, 3) := by decide +kernel
theorem dX6_take_50 : decode cX6_take 50 = .ok (.ireturn, 1) := by decide +kernel
set_option maxRecDepth 20000 in
theorem ggX6_isClean_X6_layBest : GoodIn wsX6_isClean wsX6_layBest := goodIn_r _ [7, 1, 8, 9, 2, 10, 11, 12, 6, 13, 14, 15, 16, 17, 18, 19, 20, 21, 22, 23, 24, 25, 26, 27, 28, 29, 30, 31, 32, 33, 34, 35, 36, 37, 38, 39, 40, 41, 42, 43, 44, 45, 46, 47, 48, 49, 50, 51, 52, 53, 54, 55, 56, 57, 58, 59, 60, 61, 62, 63, 64, 65, 66, 67, 68, 73, 74, 75, 76, 77, 78, 79, 80, 81, 82, 83, 84, 85, 86, 87, 88] (by decide +kernel) (by decide +kernel)
set_option maxRecDepth 20000 in
theorem gX6_isClean_X6_layBest : GoodIn wsX6_isClean (wsV RX6 134 RX6 yX6_layBest wsX6_layBest) := goodIn_app (goodIn_of _ (by decide +kernel)) ggX6_isClean_X6_layBest
set_option maxRecDepth 20000 in
theorem ggX6_isClean_X6_misreads : GoodIn wsX6_isClean wsX6_misreads := goodIn_r _ [72, 18, 73, 74, 75, 76, 77, 78, 79, 80, 81, 82, 83, 84, 85, 86, 87, 88] (by decide +kernel) (by decide +kernel)
set_option maxRecDepth 20000 in
theorem gX6_isClean_X6_misreads : GoodIn wsX6_isClean (wsV RX6 52 RX6 yX6_misreads wsX6_misreads) := goodIn_app (goodIn_of _ (by decide +kernel)) ggX6_isClean_X6_misreads
theorem dX6_isClean_0 : decode cX6_isClean 0 = .ok (.aload_n 0, 1) := by decide +kernel
theorem dX6_isClean_1 : decode cX6_isClean 1 = .ok (.iload_n 1, 1) := by decide +kernel
theorem dX6_isClean_2 : decode cX6_isClean 2 = .ok (.invokevirtual 134, 3) := by decide +kernel
theorem dX6_isClean_5 : decode cX6_isClean 5 = .ok (.aload_n 0, 1) := by decide +kernel
theorem dX6_isClean_6 : decode cX6_isClean 6 = .ok (.getfield 99, 3) := by decide +kernel
theorem dX6_isClean_9 : decode cX6_isClean 9 = .ok (.ifCond .le 18, 3) := by decide +kernel
theorem dX6_isClean_12 : decode cX6_isClean 12 = .ok (.aload_n 0, 1) := by decide +kernel
theorem dX6_isClean_13 : decode cX6_isClean 13 = .ok (.getfield 105, 3) := by decide +kernel
theorem dX6_isClean_16 : decode cX6_isClean 16 = .ok (.aload_n 0, 1) := by decide +kernel
theorem dX6_isClean_17 : decode cX6_isClean 17 = .ok (.invokevirtual 52, 3) := by decide +kernel
theorem dX6_isClean_20 : decode cX6_isClean 20 = .ok (.if_icmp .ne 7, 3) := by decide +kernel
theorem dX6_isClean_23 : decode cX6_isClean 23 = .ok (.iconst 1, 1) := by decide +kernel
theorem dX6_isClean_24 : decode cX6_isClean 24 = .ok (.goto 4, 3) := by decide +kernel
theorem dX6_isClean_27 : decode cX6_isClean 27 = .ok (.iconst 0, 1) := by decide +kernel
theorem dX6_isClean_28 : decode cX6_isClean 28 = .ok (.ireturn, 1) := by decide +kernel
set_option maxRecDepth 20000 in
theorem ggX6_fewest_X6_power : GoodIn wsX6_fewest wsX6_power := goodIn_r _ [5, 6, 77, 78, 79, 80, 81, 82, 83, 84, 85, 86, 87, 88, 89, 90, 91, 92] (by decide +kernel) (by decide +kernel)
set_option maxRecDepth 20000 in
theorem gX6_fewest_X6_power : GoodIn wsX6_fewest (wsV RX6 121 RX6 yX6_power wsX6_power) := goodIn_app (goodIn_of _ (by decide +kernel)) ggX6_fewest_X6_power
set_option maxRecDepth 20000 in
theorem ggX6_fewest_X6_isClean : GoodIn wsX6_fewest wsX6_isClean := goodIn_r _ [10, 11, 12, 13, 14, 15, 4, 16, 17, 18, 19, 20, 21, 22, 23, 24, 25, 26, 6, 27, 28, 29, 30, 31, 1, 2, 3, 5, 32, 33, 34, 35, 36, 37, 38, 39, 40, 41, 42, 43, 44, 45, 46, 47, 48, 49, 50, 51, 52, 53, 54, 55, 56, 57, 58, 59, 60, 61, 62, 63, 64, 65, 66, 67, 68, 69, 70, 71, 72, 73, 74, 75, 76, 77, 78, 79, 80, 81, 82, 83, 84, 85, 86, 87, 88, 89, 90, 91, 92] (by decide +kernel) (by decide +kernel)
set_option maxRecDepth 20000 in
theorem gX6_fewest_X6_isClean : GoodIn wsX6_fewest (wsV RX6 140 RX6 yX6_isClean wsX6_isClean) := goodIn_app (goodIn_of _ (by decide +kernel)) ggX6_fewest_X6_isClean
theorem dX6_fewest_0 : decode cX6_fewest 0 = .ok (.iconst 1, 1) := by decide +kernel
theorem dX6_fewest_1 : decode cX6_fewest 1 = .ok (.istore_n 1, 1) := by decide +kernel
theorem dX6_fewest_2 : decode cX6_fewest 2 = .ok (.iload_n 1, 1) := by decide +kernel
theorem dX6_fewest_3 : decode cX6_fewest 3 = .ok (.iconst 3, 1) := by decide +kernel
theorem dX6_fewest_4 : decode cX6_fewest 4 = .ok (.if_icmp .gt 29, 3) := by decide +kernel
theorem dX6_fewest_7 : decode cX6_fewest 7 = .ok (.aload_n 0, 1) := by decide +kernel
theorem dX6_fewest_8 : decode cX6_fewest 8 = .ok (.iload_n 1, 1) := by decide +kernel
theorem dX6_fewest_9 : decode cX6_fewest 9 = .ok (.invokevirtual 121, 3) := by decide +kernel
theorem dX6_fewest_12 : decode cX6_fewest 12 = .ok (.bipush 16, 2) := by decide +kernel
theorem dX6_fewest_14 : decode cX6_fewest 14 = .ok (.if_icmp .gt 13, 3) := by decide +kernel
theorem dX6_fewest_17 : decode cX6_fewest 17 = .ok (.aload_n 0, 1) := by decide +kernel
theorem dX6_fewest_18 : decode cX6_fewest 18 = .ok (.iload_n 1, 1) := by decide +kernel
theorem dX6_fewest_19 : decode cX6_fewest 19 = .ok (.invokevirtual 140, 3) := by decide +kernel
theorem dX6_fewest_22 : decode cX6_fewest 22 = .ok (.ifCond .eq 5, 3) := by decide +kernel
theorem dX6_fewest_25 : decode cX6_fewest 25 = .ok (.iload_n 1, 1) := by decide +kernel
theorem dX6_fewest_26 : decode cX6_fewest 26 = .ok (.ireturn, 1) := by decide +kernel
theorem dX6_fewest_27 : decode cX6_fewest 27 = .ok (.iinc 1 1, 3) := by decide +kernel
theorem dX6_fewest_30 : decode cX6_fewest 30 = .ok (.goto (-28), 3) := by decide +kernel
theorem dX6_fewest_33 : decode cX6_fewest 33 = .ok (.bipush (-6), 2) := by decide +kernel
theorem dX6_fewest_35 : decode cX6_fewest 35 = .ok (.ireturn, 1) := by decide +kernel
theorem dX6_setRooms_0 : decode cX6_setRooms 0 = .ok (.iconst 0, 1) := by decide +kernel
theorem dX6_setRooms_1 : decode cX6_setRooms 1 = .ok (.istore_n 2, 1) := by decide +kernel
theorem dX6_setRooms_2 : decode cX6_setRooms 2 = .ok (.iload_n 2, 1) := by decide +kernel
theorem dX6_setRooms_3 : decode cX6_setRooms 3 = .ok (.iconst 4, 1) := by decide +kernel
theorem dX6_setRooms_4 : decode cX6_setRooms 4 = .ok (.if_icmp .ge 19, 3) := by decide +kernel
theorem dX6_setRooms_7 : decode cX6_setRooms 7 = .ok (.aload_n 0, 1) := by decide +kernel
theorem dX6_setRooms_8 : decode cX6_setRooms 8 = .ok (.getfield 7, 3) := by decide +kernel
theorem dX6_setRooms_11 : decode cX6_setRooms 11 = .ok (.bipush 20, 2) := by decide +kernel
theorem dX6_setRooms_13 : decode cX6_setRooms 13 = .ok (.iload_n 2, 1) := by decide +kernel
theorem dX6_setRooms_14 : decode cX6_setRooms 14 = .ok (.iadd, 1) := by decide +kernel
theorem dX6_setRooms_15 : decode cX6_setRooms 15 = .ok (.iload_n 1, 1) := by decide +kernel
theorem dX6_setRooms_16 : decode cX6_setRooms 16 = .ok (.iastore, 1) := by decide +kernel
theorem dX6_setRooms_17 : decode cX6_setRooms 17 = .ok (.iinc 2 1, 3) := by decide +kernel
theorem dX6_setRooms_20 : decode cX6_setRooms 20 = .ok (.goto (-18), 3) := by decide +kernel
theorem dX6_setRooms_23 : decode cX6_setRooms 23 = .ok (.return_, 1) := by decide +kernel
set_option maxRecDepth 20000 in
theorem ggX6_needs_X6_isRun : GoodIn wsX6_needs wsX6_isRun := goodIn_r _ [6, 7, 8, 5, 9] (by decide +kernel) (by decide +kernel)
set_option maxRecDepth 20000 in
theorem gX6_needs_X6_isRun : GoodIn wsX6_needs (va_wsS RX6 84 yX6_isRun wsX6_isRun) := goodIn_app (goodIn_of _ (by decide +kernel)) ggX6_needs_X6_isRun
set_option maxRecDepth 20000 in
theorem ggX6_needs_X6_power : GoodIn wsX6_needs wsX6_power := goodIn_r _ [13, 2, 88, 89, 90, 91, 92, 93, 94, 95, 96, 97, 98, 99, 100, 101, 102, 103] (by decide +kernel) (by decide +kernel)
set_option maxRecDepth 20000 in
theorem gX6_needs_X6_power : GoodIn wsX6_needs (wsV RX6 121 RX6 yX6_power wsX6_power) := goodIn_app (goodIn_of _ (by decide +kernel)) ggX6_needs_X6_power
set_option maxRecDepth 20000 in
theorem ggX6_needs_X6_setRooms : GoodIn wsX6_needs wsX6_setRooms := goodIn_r _ [17, 2, 88, 89, 90, 91, 92, 93, 94, 95, 96, 97, 98, 99, 100, 101, 102, 103] (by decide +kernel) (by decide +kernel)
set_option maxRecDepth 20000 in
theorem gX6_needs_X6_setRooms : GoodIn wsX6_needs (wsV RX6 143 RX6 yX6_setRooms wsX6_setRooms) := goodIn_app (goodIn_of _ (by decide +kernel)) ggX6_needs_X6_setRooms
set_option maxRecDepth 20000 in
theorem ggX6_needs_X6_isClean : GoodIn wsX6_needs wsX6_isClean := goodIn_r _ [21, 22, 23, 24, 25, 26, 5, 27, 28, 29, 30, 31, 32, 33, 34, 35, 36, 37, 2, 38, 39, 40, 41, 42, 10, 11, 12, 13, 43, 44, 45, 46, 47, 48, 49, 50, 51, 52, 53, 54, 55, 56, 57, 58, 59, 60, 61, 62, 63, 64, 65, 66, 67, 68, 69, 70, 71, 72, 73, 74, 75, 76, 77, 78, 79, 80, 81, 82, 83, 84, 85, 86, 87, 88, 89, 90, 91, 92, 93, 94, 95, 96, 97, 98, 99, 100, 101, 102, 103] (by decide +kernel) (by decide +kernel)
set_option maxRecDepth 20000 in
theorem gX6_needs_X6_isClean : GoodIn wsX6_needs (wsV RX6 140 RX6 yX6_isClean wsX6_isClean) := goodIn_app (goodIn_of _ (by decide +kernel)) ggX6_needs_X6_isClean
theorem dX6_needs_0 : decode cX6_needs 0 = .ok (.iload_n 1, 1) := by decide +kernel
theorem dX6_needs_1 : decode cX6_needs 1 = .ok (.invokestatic 84, 3) := by decide +kernel
theorem dX6_needs_4 : decode cX6_needs 4 = .ok (.ifCond .ne 6, 3) := by decide +kernel
theorem dX6_needs_7 : decode cX6_needs 7 = .ok (.bipush (-2), 2) := by decide +kernel
theorem dX6_needs_9 : decode cX6_needs 9 = .ok (.ireturn, 1) := by decide +kernel
theorem dX6_needs_10 : decode cX6_needs 10 = .ok (.aload_n 0, 1) := by decide +kernel
theorem dX6_needs_11 : decode cX6_needs 11 = .ok (.iload_n 1, 1) := by decide +kernel
theorem dX6_needs_12 : decode cX6_needs 12 = .ok (.invokevirtual 121, 3) := by decide +kernel
theorem dX6_needs_15 : decode cX6_needs 15 = .ok (.bipush 16, 2) := by decide +kernel
theorem dX6_needs_17 : decode cX6_needs 17 = .ok (.if_icmp .le 6, 3) := by decide +kernel
theorem dX6_needs_20 : decode cX6_needs 20 = .ok (.bipush (-5), 2) := by decide +kernel
theorem dX6_needs_22 : decode cX6_needs 22 = .ok (.ireturn, 1) := by decide +kernel
theorem dX6_needs_23 : decode cX6_needs 23 = .ok (.iconst 0, 1) := by decide +kernel
theorem dX6_needs_24 : decode cX6_needs 24 = .ok (.istore_n 2, 1) := by decide +kernel
theorem dX6_needs_25 : decode cX6_needs 25 = .ok (.iload_n 2, 1) := by decide +kernel
theorem dX6_needs_26 : decode cX6_needs 26 = .ok (.iconst 4, 1) := by decide +kernel
theorem dX6_needs_27 : decode cX6_needs 27 = .ok (.if_icmp .ge 24, 3) := by decide +kernel
theorem dX6_needs_30 : decode cX6_needs 30 = .ok (.aload_n 0, 1) := by decide +kernel
theorem dX6_needs_31 : decode cX6_needs 31 = .ok (.getfield 38, 3) := by decide +kernel
theorem dX6_needs_34 : decode cX6_needs 34 = .ok (.iload_n 2, 1) := by decide +kernel
theorem dX6_needs_35 : decode cX6_needs 35 = .ok (.aload_n 0, 1) := by decide +kernel
theorem dX6_needs_36 : decode cX6_needs 36 = .ok (.getfield 7, 3) := by decide +kernel
theorem dX6_needs_39 : decode cX6_needs 39 = .ok (.bipush 20, 2) := by decide +kernel
theorem dX6_needs_41 : decode cX6_needs 41 = .ok (.iload_n 2, 1) := by decide +kernel
theorem dX6_needs_42 : decode cX6_needs 42 = .ok (.iadd, 1) := by decide +kernel
theorem dX6_needs_43 : decode cX6_needs 43 = .ok (.iaload, 1) := by decide +kernel
theorem dX6_needs_44 : decode cX6_needs 44 = .ok (.iastore, 1) := by decide +kernel
theorem dX6_needs_45 : decode cX6_needs 45 = .ok (.iinc 2 1, 3) := by decide +kernel
theorem dX6_needs_48 : decode cX6_needs 48 = .ok (.goto (-23), 3) := by decide +kernel
theorem dX6_needs_51 : decode cX6_needs 51 = .ok (.iconst 0, 1) := by decide +kernel
theorem dX6_needs_52 : decode cX6_needs 52 = .ok (.istore_n 2, 1) := by decide +kernel
theorem dX6_needs_53 : decode cX6_needs 53 = .ok (.bipush 100, 2) := by decide +kernel
theorem dX6_needs_55 : decode cX6_needs 55 = .ok (.istore_n 3, 1) := by decide +kernel
theorem dX6_needs_56 : decode cX6_needs 56 = .ok (.iload_n 3, 1) := by decide +kernel
theorem dX6_needs_57 : decode cX6_needs 57 = .ok (.iload_n 2, 1) := by decide +kernel
theorem dX6_needs_58 : decode cX6_needs 58 = .ok (.isub, 1) := by decide +kernel
theorem dX6_needs_59 : decode cX6_needs 59 = .ok (.iconst 1, 1) := by decide +kernel
theorem dX6_needs_60 : decode cX6_needs 60 = .ok (.if_icmp .le 36, 3) := by decide +kernel
theorem dX6_needs_63 : decode cX6_needs 63 = .ok (.iload_n 3, 1) := by decide +kernel
theorem dX6_needs_64 : decode cX6_needs 64 = .ok (.iload_n 2, 1) := by decide +kernel
theorem dX6_needs_65 : decode cX6_needs 65 = .ok (.iadd, 1) := by decide +kernel
theorem dX6_needs_66 : decode cX6_needs 66 = .ok (.iconst 2, 1) := by decide +kernel
theorem dX6_needs_67 : decode cX6_needs 67 = .ok (.idiv, 1) := by decide +kernel
theorem dX6_needs_68 : decode cX6_needs 68 = .ok (.istore 4, 2) := by decide +kernel
theorem dX6_needs_70 : decode cX6_needs 70 = .ok (.aload_n 0, 1) := by decide +kernel
theorem dX6_needs_71 : decode cX6_needs 71 = .ok (.iload 4, 2) := by decide +kernel
theorem dX6_needs_73 : decode cX6_needs 73 = .ok (.invokevirtual 143, 3) := by decide +kernel
theorem dX6_needs_76 : decode cX6_needs 76 = .ok (.aload_n 0, 1) := by decide +kernel
theorem dX6_needs_77 : decode cX6_needs 77 = .ok (.iload_n 1, 1) := by decide +kernel
theorem dX6_needs_78 : decode cX6_needs 78 = .ok (.invokevirtual 140, 3) := by decide +kernel
theorem dX6_needs_81 : decode cX6_needs 81 = .ok (.ifCond .eq 9, 3) := by decide +kernel
theorem dX6_needs_84 : decode cX6_needs 84 = .ok (.iload 4, 2) := by decide +kernel
theorem dX6_needs_86 : decode cX6_needs 86 = .ok (.istore_n 3, 1) := by decide +kernel
theorem dX6_needs_87 : decode cX6_needs 87 = .ok (.goto 6, 3) := by decide +kernel
theorem dX6_needs_90 : decode cX6_needs 90 = .ok (.iload 4, 2) := by decide +kernel
theorem dX6_needs_92 : decode cX6_needs 92 = .ok (.istore_n 2, 1) := by decide +kernel
theorem dX6_needs_93 : decode cX6_needs 93 = .ok (.goto (-37), 3) := by decide +kernel
theorem dX6_needs_96 : decode cX6_needs 96 = .ok (.iconst 0, 1) := by decide +kernel
theorem dX6_needs_97 : decode cX6_needs 97 = .ok (.istore 4, 2) := by decide +kernel
theorem dX6_needs_99 : decode cX6_needs 99 = .ok (.iload 4, 2) := by decide +kernel
theorem dX6_needs_101 : decode cX6_needs 101 = .ok (.iconst 4, 1) := by decide +kernel
theorem dX6_needs_102 : decode cX6_needs 102 = .ok (.if_icmp .ge 26, 3) := by decide +kernel
theorem dX6_needs_105 : decode cX6_needs 105 = .ok (.aload_n 0, 1) := by decide +kernel
theorem dX6_needs_106 : decode cX6_needs 106 = .ok (.getfield 7, 3) := by decide +kernel
theorem dX6_needs_109 : decode cX6_needs 109 = .ok (.bipush 20, 2) := by decide +kernel
theorem dX6_needs_111 : decode cX6_needs 111 = .ok (.iload 4, 2) := by decide +kernel
theorem dX6_needs_113 : decode cX6_needs 113 = .ok (.iadd, 1) := by decide +kernel
theorem dX6_needs_114 : decode cX6_needs 114 = .ok (.aload_n 0, 1) := by decide +kernel
theorem dX6_needs_115 : decode cX6_needs 115 = .ok (.getfield 38, 3) := by decide +kernel
theorem dX6_needs_118 : decode cX6_needs 118 = .ok (.iload 4, 2) := by decide +kernel
theorem dX6_needs_120 : decode cX6_needs 120 = .ok (.iaload, 1) := by decide +kernel
theorem dX6_needs_121 : decode cX6_needs 121 = .ok (.iastore, 1) := by decide +kernel
theorem dX6_needs_122 : decode cX6_needs 122 = .ok (.iinc 4 1, 3) := by decide +kernel
theorem dX6_needs_125 : decode cX6_needs 125 = .ok (.goto (-26), 3) := by decide +kernel
theorem dX6_needs_128 : decode cX6_needs 128 = .ok (.iload_n 3, 1) := by decide +kernel
theorem dX6_needs_129 : decode cX6_needs 129 = .ok (.bipush 100, 2) := by decide +kernel
theorem dX6_needs_131 : decode cX6_needs 131 = .ok (.if_icmp .ge 7, 3) := by decide +kernel
theorem dX6_needs_134 : decode cX6_needs 134 = .ok (.iload_n 3, 1) := by decide +kernel
theorem dX6_needs_135 : decode cX6_needs 135 = .ok (.goto 5, 3) := by decide +kernel
theorem dX6_needs_138 : decode cX6_needs 138 = .ok (.bipush (-6), 2) := by decide +kernel
theorem dX6_needs_140 : decode cX6_needs 140 = .ok (.ireturn, 1) := by decide +kernel
set_option maxRecDepth 20000 in
theorem ggX6_image_X6_in : GoodIn wsX6_image wsX6_in := goodIn_r _ [7] (by decide +kernel) (by decide +kernel)
set_option maxRecDepth 20000 in
theorem gX6_image_X6_in : GoodIn wsX6_image (va_wsS RX6 41 yX6_in wsX6_in) := goodIn_app (goodIn_of _ (by decide +kernel)) ggX6_image_X6_in
theorem dX6_image_0 : decode cX6_image 0 = .ok (.iload_n 1, 1) := by decide +kernel
theorem dX6_image_1 : decode cX6_image 1 = .ok (.iconst 0, 1) := by decide +kernel
theorem dX6_image_2 : decode cX6_image 2 = .ok (.iconst 1, 1) := by decide +kernel
theorem dX6_image_3 : decode cX6_image 3 = .ok (.invokestatic 41, 3) := by decide +kernel
theorem dX6_image_6 : decode cX6_image 6 = .ok (.ifCond .ne 6, 3) := by decide +kernel
theorem dX6_image_9 : decode cX6_image 9 = .ok (.bipush (-2), 2) := by decide +kernel
theorem dX6_image_11 : decode cX6_image 11 = .ok (.ireturn, 1) := by decide +kernel
theorem dX6_image_12 : decode cX6_image 12 = .ok (.iconst 0, 1) := by decide +kernel
theorem dX6_image_13 : decode cX6_image 13 = .ok (.istore_n 2, 1) := by decide +kernel
theorem dX6_image_14 : decode cX6_image 14 = .ok (.iload_n 2, 1) := by decide +kernel
theorem dX6_image_15 : decode cX6_image 15 = .ok (.bipush 98, 2) := by decide +kernel
theorem dX6_image_17 : decode cX6_image 17 = .ok (.if_icmp .ge 26, 3) := by decide +kernel
theorem dX6_image_20 : decode cX6_image 20 = .ok (.aload_n 0, 1) := by decide +kernel
theorem dX6_image_21 : decode cX6_image 21 = .ok (.getfield 13, 3) := by decide +kernel
theorem dX6_image_24 : decode cX6_image 24 = .ok (.bipush 98, 2) := by decide +kernel
theorem dX6_image_26 : decode cX6_image 26 = .ok (.iload_n 1, 1) := by decide +kernel
theorem dX6_image_27 : decode cX6_image 27 = .ok (.imul, 1) := by decide +kernel
theorem dX6_image_28 : decode cX6_image 28 = .ok (.iload_n 2, 1) := by decide +kernel
theorem dX6_image_29 : decode cX6_image 29 = .ok (.iadd, 1) := by decide +kernel
theorem dX6_image_30 : decode cX6_image 30 = .ok (.aload_n 0, 1) := by decide +kernel
theorem dX6_image_31 : decode cX6_image 31 = .ok (.getfield 7, 3) := by decide +kernel
theorem dX6_image_34 : decode cX6_image 34 = .ok (.iload_n 2, 1) := by decide +kernel
theorem dX6_image_35 : decode cX6_image 35 = .ok (.iaload, 1) := by decide +kernel
theorem dX6_image_36 : decode cX6_image 36 = .ok (.iastore, 1) := by decide +kernel
theorem dX6_image_37 : decode cX6_image 37 = .ok (.iinc 2 1, 3) := by decide +kernel
theorem dX6_image_40 : decode cX6_image 40 = .ok (.goto (-26), 3) := by decide +kernel
theorem dX6_image_43 : decode cX6_image 43 = .ok (.aload_n 0, 1) := by decide +kernel
theorem dX6_image_44 : decode cX6_image 44 = .ok (.getfield 16, 3) := by decide +kernel
theorem dX6_image_47 : decode cX6_image 47 = .ok (.iload_n 1, 1) := by decide +kernel
theorem dX6_image_48 : decode cX6_image 48 = .ok (.iconst 1, 1) := by decide +kernel
theorem dX6_image_49 : decode cX6_image 49 = .ok (.bastore, 1) := by decide +kernel
theorem dX6_image_50 : decode cX6_image 50 = .ok (.iconst 1, 1) := by decide +kernel
theorem dX6_image_51 : decode cX6_image 51 = .ok (.ireturn, 1) := by decide +kernel
set_option maxRecDepth 20000 in
theorem ggX6_restore_X6_in : GoodIn wsX6_restore wsX6_in := goodIn_r _ [7] (by decide +kernel) (by decide +kernel)
set_option maxRecDepth 20000 in
theorem gX6_restore_X6_in : GoodIn wsX6_restore (va_wsS RX6 41 yX6_in wsX6_in) := goodIn_app (goodIn_of _ (by decide +kernel)) ggX6_restore_X6_in
theorem dX6_restore_0 : decode cX6_restore 0 = .ok (.iload_n 1, 1) := by decide +kernel
theorem dX6_restore_1 : decode cX6_restore 1 = .ok (.iconst 0, 1) := by decide +kernel
theorem dX6_restore_2 : decode cX6_restore 2 = .ok (.iconst 1, 1) := by decide +kernel
theorem dX6_restore_3 : decode cX6_restore 3 = .ok (.invokestatic 41, 3) := by decide +kernel
theorem dX6_restore_6 : decode cX6_restore 6 = .ok (.ifCond .ne 6, 3) := by decide +kernel
theorem dX6_restore_9 : decode cX6_restore 9 = .ok (.bipush (-2), 2) := by decide +kernel
theorem dX6_restore_11 : decode cX6_restore 11 = .ok (.ireturn, 1) := by decide +kernel
theorem dX6_restore_12 : decode cX6_restore 12 = .ok (.aload_n 0, 1) := by decide +kernel
theorem dX6_restore_13 : decode cX6_restore 13 = .ok (.getfield 16, 3) := by decide +kernel
theorem dX6_restore_16 : decode cX6_restore 16 = .ok (.iload_n 1, 1) := by decide +kernel
theorem dX6_restore_17 : decode cX6_restore 17 = .ok (.baload, 1) := by decide +kernel
theorem dX6_restore_18 : decode cX6_restore 18 = .ok (.ifCond .ne 6, 3) := by decide +kernel
theorem dX6_restore_21 : decode cX6_restore 21 = .ok (.bipush (-3), 2) := by decide +kernel
theorem dX6_restore_23 : decode cX6_restore 23 = .ok (.ireturn, 1) := by decide +kernel
theorem dX6_restore_24 : decode cX6_restore 24 = .ok (.iconst 0, 1) := by decide +kernel
theorem dX6_restore_25 : decode cX6_restore 25 = .ok (.istore_n 2, 1) := by decide +kernel
theorem dX6_restore_26 : decode cX6_restore 26 = .ok (.iload_n 2, 1) := by decide +kernel
theorem dX6_restore_27 : decode cX6_restore 27 = .ok (.bipush 98, 2) := by decide +kernel
theorem dX6_restore_29 : decode cX6_restore 29 = .ok (.if_icmp .ge 26, 3) := by decide +kernel
theorem dX6_restore_32 : decode cX6_restore 32 = .ok (.aload_n 0, 1) := by decide +kernel
theorem dX6_restore_33 : decode cX6_restore 33 = .ok (.getfield 7, 3) := by decide +kernel
theorem dX6_restore_36 : decode cX6_restore 36 = .ok (.iload_n 2, 1) := by decide +kernel
theorem dX6_restore_37 : decode cX6_restore 37 = .ok (.aload_n 0, 1) := by decide +kernel
theorem dX6_restore_38 : decode cX6_restore 38 = .ok (.getfield 13, 3) := by decide +kernel
theorem dX6_restore_41 : decode cX6_restore 41 = .ok (.bipush 98, 2) := by decide +kernel
theorem dX6_restore_43 : decode cX6_restore 43 = .ok (.iload_n 1, 1) := by decide +kernel
theorem dX6_restore_44 : decode cX6_restore 44 = .ok (.imul, 1) := by decide +kernel
theorem dX6_restore_45 : decode cX6_restore 45 = .ok (.iload_n 2, 1) := by decide +kernel
theorem dX6_restore_46 : decode cX6_restore 46 = .ok (.iadd, 1) := by decide +kernel
theorem dX6_restore_47 : decode cX6_restore 47 = .ok (.iaload, 1) := by decide +kernel
theorem dX6_restore_48 : decode cX6_restore 48 = .ok (.iastore, 1) := by decide +kernel
theorem dX6_restore_49 : decode cX6_restore 49 = .ok (.iinc 2 1, 3) := by decide +kernel
theorem dX6_restore_52 : decode cX6_restore 52 = .ok (.goto (-26), 3) := by decide +kernel
theorem dX6_restore_55 : decode cX6_restore 55 = .ok (.iconst 1, 1) := by decide +kernel
theorem dX6_restore_56 : decode cX6_restore 56 = .ok (.ireturn, 1) := by decide +kernel
theorem dX6_sumOf_0 : decode cX6_sumOf 0 = .ok (.iconst 0, 1) := by decide +kernel
theorem dX6_sumOf_1 : decode cX6_sumOf 1 = .ok (.istore_n 3, 1) := by decide +kernel
theorem dX6_sumOf_2 : decode cX6_sumOf 2 = .ok (.iconst 0, 1) := by decide +kernel
theorem dX6_sumOf_3 : decode cX6_sumOf 3 = .ok (.istore 4, 2) := by decide +kernel
theorem dX6_sumOf_5 : decode cX6_sumOf 5 = .ok (.iload 4, 2) := by decide +kernel
theorem dX6_sumOf_7 : decode cX6_sumOf 7 = .ok (.iload_n 2, 1) := by decide +kernel
theorem dX6_sumOf_8 : decode cX6_sumOf 8 = .ok (.if_icmp .ge 21, 3) := by decide +kernel
theorem dX6_sumOf_11 : decode cX6_sumOf 11 = .ok (.iload_n 3, 1) := by decide +kernel
theorem dX6_sumOf_12 : decode cX6_sumOf 12 = .ok (.aload_n 0, 1) := by decide +kernel
theorem dX6_sumOf_13 : decode cX6_sumOf 13 = .ok (.getfield 7, 3) := by decide +kernel
theorem dX6_sumOf_16 : decode cX6_sumOf 16 = .ok (.iload_n 1, 1) := by decide +kernel
theorem dX6_sumOf_17 : decode cX6_sumOf 17 = .ok (.iload 4, 2) := by decide +kernel
theorem dX6_sumOf_19 : decode cX6_sumOf 19 = .ok (.iadd, 1) := by decide +kernel
theorem dX6_sumOf_20 : decode cX6_sumOf 20 = .ok (.iaload, 1) := by decide +kernel
theorem dX6_sumOf_21 : decode cX6_sumOf 21 = .ok (.iadd, 1) := by decide +kernel
theorem dX6_sumOf_22 : decode cX6_sumOf 22 = .ok (.istore_n 3, 1) := by decide +kernel
theorem dX6_sumOf_23 : decode cX6_sumOf 23 = .ok (.iinc 4 1, 3) := by decide +kernel
theorem dX6_sumOf_26 : decode cX6_sumOf 26 = .ok (.goto (-21), 3) := by decide +kernel
theorem dX6_sumOf_29 : decode cX6_sumOf 29 = .ok (.iload_n 3, 1) := by decide +kernel
theorem dX6_sumOf_30 : decode cX6_sumOf 30 = .ok (.ireturn, 1) := by decide +kernel
set_option maxRecDepth 20000 in
theorem ggX6_count_X6_in : GoodIn wsX6_count wsX6_in := goodIn_r _ [6] (by decide +kernel) (by decide +kernel)
set_option maxRecDepth 20000 in
theorem gX6_count_X6_in : GoodIn wsX6_count (va_wsS RX6 41 yX6_in wsX6_in) := goodIn_app (goodIn_of _ (by decide +kernel)) ggX6_count_X6_in
set_option maxRecDepth 20000 in
theorem ggX6_count_X6_misreads : GoodIn wsX6_count wsX6_misreads := goodIn_r _ [10, 1, 23, 24, 25, 26, 27, 28, 29, 30, 31, 32, 33, 34, 35, 36, 37, 38] (by decide +kernel) (by decide +kernel)
set_option maxRecDepth 20000 in
theorem gX6_count_X6_misreads : GoodIn wsX6_count (wsV RX6 52 RX6 yX6_misreads wsX6_misreads) := goodIn_app (goodIn_of _ (by decide +kernel)) ggX6_count_X6_misreads
set_option maxRecDepth 20000 in
theorem ggX6_count_X6_usedMany : GoodIn wsX6_count wsX6_usedMany := goodIn_r _ [14, 15, 16, 17, 5, 18, 1, 23, 24, 25, 26, 27, 28, 29, 30, 31, 32, 33, 34, 35, 36, 37, 38] (by decide +kernel) (by decide +kernel)
set_option maxRecDepth 20000 in
theorem gX6_count_X6_usedMany : GoodIn wsX6_count (wsV RX6 115 RX6 yX6_usedMany wsX6_usedMany) := goodIn_app (goodIn_of _ (by decide +kernel)) ggX6_count_X6_usedMany
set_option maxRecDepth 20000 in
theorem ggX6_count_X6_sumOf : GoodIn wsX6_count wsX6_sumOf := goodIn_r _ [22, 1, 23, 24, 25, 26, 27, 28, 29, 30, 31, 32, 33, 34, 35, 36, 37, 38] (by decide +kernel) (by decide +kernel)
set_option maxRecDepth 20000 in
theorem gX6_count_X6_sumOf : GoodIn wsX6_count (wsV RX6 146 RX6 yX6_sumOf wsX6_sumOf) := goodIn_app (goodIn_of _ (by decide +kernel)) ggX6_count_X6_sumOf
theorem dX6_count_0 : decode cX6_count 0 = .ok (.iload_n 1, 1) := by decide +kernel
theorem dX6_count_1 : decode cX6_count 1 = .ok (.bipush 10, 2) := by decide +kernel
theorem dX6_count_3 : decode cX6_count 3 = .ok (.bipush 19, 2) := by decide +kernel
theorem dX6_count_5 : decode cX6_count 5 = .ok (.invokestatic 41, 3) := by decide +kernel
theorem dX6_count_8 : decode cX6_count 8 = .ok (.ifCond .eq 16, 3) := by decide +kernel
theorem dX6_count_11 : decode cX6_count 11 = .ok (.aload_n 0, 1) := by decide +kernel
theorem dX6_count_12 : decode cX6_count 12 = .ok (.getfield 7, 3) := by decide +kernel
theorem dX6_count_15 : decode cX6_count 15 = .ok (.bipush 10, 2) := by decide +kernel
theorem dX6_count_17 : decode cX6_count 17 = .ok (.iload_n 1, 1) := by decide +kernel
theorem dX6_count_18 : decode cX6_count 18 = .ok (.iadd, 1) := by decide +kernel
theorem dX6_count_19 : decode cX6_count 19 = .ok (.bipush 10, 2) := by decide +kernel
theorem dX6_count_21 : decode cX6_count 21 = .ok (.isub, 1) := by decide +kernel
theorem dX6_count_22 : decode cX6_count 22 = .ok (.iaload, 1) := by decide +kernel
theorem dX6_count_23 : decode cX6_count 23 = .ok (.ireturn, 1) := by decide +kernel
theorem dX6_count_24 : decode cX6_count 24 = .ok (.iload_n 1, 1) := by decide +kernel
theorem dX6_count_25 : decode cX6_count 25 = .ok (.tableswitch 127 0 6 #[43, 51, 56, 61, 69, 83, 97], 43) := by decide +kernel
theorem dX6_count_68 : decode cX6_count 68 = .ok (.aload_n 0, 1) := by decide +kernel
theorem dX6_count_69 : decode cX6_count 69 = .ok (.getfield 7, 3) := by decide +kernel
theorem dX6_count_72 : decode cX6_count 72 = .ok (.bipush 25, 2) := by decide +kernel
theorem dX6_count_74 : decode cX6_count 74 = .ok (.iaload, 1) := by decide +kernel
theorem dX6_count_75 : decode cX6_count 75 = .ok (.ireturn, 1) := by decide +kernel
theorem dX6_count_76 : decode cX6_count 76 = .ok (.aload_n 0, 1) := by decide +kernel
theorem dX6_count_77 : decode cX6_count 77 = .ok (.invokevirtual 52, 3) := by decide +kernel
theorem dX6_count_80 : decode cX6_count 80 = .ok (.ireturn, 1) := by decide +kernel
theorem dX6_count_81 : decode cX6_count 81 = .ok (.aload_n 0, 1) := by decide +kernel
theorem dX6_count_82 : decode cX6_count 82 = .ok (.invokevirtual 115, 3) := by decide +kernel
theorem dX6_count_85 : decode cX6_count 85 = .ok (.ireturn, 1) := by decide +kernel
theorem dX6_count_86 : decode cX6_count 86 = .ok (.aload_n 0, 1) := by decide +kernel
theorem dX6_count_87 : decode cX6_count 87 = .ok (.getfield 7, 3) := by decide +kernel
theorem dX6_count_90 : decode cX6_count 90 = .ok (.bipush 24, 2) := by decide +kernel
theorem dX6_count_92 : decode cX6_count 92 = .ok (.iaload, 1) := by decide +kernel
theorem dX6_count_93 : decode cX6_count 93 = .ok (.ireturn, 1) := by decide +kernel
theorem dX6_count_94 : decode cX6_count 94 = .ok (.aload_n 0, 1) := by decide +kernel
theorem dX6_count_95 : decode cX6_count 95 = .ok (.bipush 50, 2) := by decide +kernel
theorem dX6_count_97 : decode cX6_count 97 = .ok (.aload_n 0, 1) := by decide +kernel
theorem dX6_count_98 : decode cX6_count 98 = .ok (.getfield 7, 3) := by decide +kernel
theorem dX6_count_101 : decode cX6_count 101 = .ok (.bipush 25, 2) := by decide +kernel
theorem dX6_count_103 : decode cX6_count 103 = .ok (.iaload, 1) := by decide +kernel
theorem dX6_count_104 : decode cX6_count 104 = .ok (.invokevirtual 146, 3) := by decide +kernel
theorem dX6_count_107 : decode cX6_count 107 = .ok (.ireturn, 1) := by decide +kernel
theorem dX6_count_108 : decode cX6_count 108 = .ok (.aload_n 0, 1) := by decide +kernel
theorem dX6_count_109 : decode cX6_count 109 = .ok (.bipush 20, 2) := by decide +kernel
theorem dX6_count_111 : decode cX6_count 111 = .ok (.aload_n 0, 1) := by decide +kernel
theorem dX6_count_112 : decode cX6_count 112 = .ok (.getfield 7, 3) := by decide +kernel
theorem dX6_count_115 : decode cX6_count 115 = .ok (.bipush 24, 2) := by decide +kernel
theorem dX6_count_117 : decode cX6_count 117 = .ok (.iaload, 1) := by decide +kernel
theorem dX6_count_118 : decode cX6_count 118 = .ok (.invokevirtual 146, 3) := by decide +kernel
theorem dX6_count_121 : decode cX6_count 121 = .ok (.ireturn, 1) := by decide +kernel
theorem dX6_count_122 : decode cX6_count 122 = .ok (.aload_n 0, 1) := by decide +kernel
theorem dX6_count_123 : decode cX6_count 123 = .ok (.getfield 16, 3) := by decide +kernel
theorem dX6_count_126 : decode cX6_count 126 = .ok (.iconst 0, 1) := by decide +kernel
theorem dX6_count_127 : decode cX6_count 127 = .ok (.baload, 1) := by decide +kernel
theorem dX6_count_128 : decode cX6_count 128 = .ok (.ifCond .eq 7, 3) := by decide +kernel
theorem dX6_count_131 : decode cX6_count 131 = .ok (.iconst 1, 1) := by decide +kernel
theorem dX6_count_132 : decode cX6_count 132 = .ok (.goto 4, 3) := by decide +kernel
theorem dX6_count_135 : decode cX6_count 135 = .ok (.iconst 0, 1) := by decide +kernel
theorem dX6_count_136 : decode cX6_count 136 = .ok (.aload_n 0, 1) := by decide +kernel
theorem dX6_count_137 : decode cX6_count 137 = .ok (.getfield 16, 3) := by decide +kernel
theorem dX6_count_140 : decode cX6_count 140 = .ok (.iconst 1, 1) := by decide +kernel
theorem dX6_count_141 : decode cX6_count 141 = .ok (.baload, 1) := by decide +kernel
theorem dX6_count_142 : decode cX6_count 142 = .ok (.ifCond .eq 7, 3) := by decide +kernel
theorem dX6_count_145 : decode cX6_count 145 = .ok (.iconst 2, 1) := by decide +kernel
theorem dX6_count_146 : decode cX6_count 146 = .ok (.goto 4, 3) := by decide +kernel
theorem dX6_count_149 : decode cX6_count 149 = .ok (.iconst 0, 1) := by decide +kernel
theorem dX6_count_150 : decode cX6_count 150 = .ok (.iadd, 1) := by decide +kernel
theorem dX6_count_151 : decode cX6_count 151 = .ok (.ireturn, 1) := by decide +kernel
theorem dX6_count_152 : decode cX6_count 152 = .ok (.bipush (-2), 2) := by decide +kernel
theorem dX6_count_154 : decode cX6_count 154 = .ok (.ireturn, 1) := by decide +kernel
theorem dJ9_min_7cf53_0 : decode cJ9_min_7cf53 0 = .ok (.iload_n 0, 1) := by decide +kernel
theorem dJ9_min_7cf53_1 : decode cJ9_min_7cf53 1 = .ok (.iload_n 1, 1) := by decide +kernel
theorem dJ9_min_7cf53_2 : decode cJ9_min_7cf53 2 = .ok (.if_icmp .gt 7, 3) := by decide +kernel
theorem dJ9_min_7cf53_5 : decode cJ9_min_7cf53 5 = .ok (.iload_n 0, 1) := by decide +kernel
theorem dJ9_min_7cf53_6 : decode cJ9_min_7cf53 6 = .ok (.goto 4, 3) := by decide +kernel
theorem dJ9_min_7cf53_9 : decode cJ9_min_7cf53 9 = .ok (.iload_n 1, 1) := by decide +kernel
theorem dJ9_min_7cf53_10 : decode cJ9_min_7cf53 10 = .ok (.ireturn, 1) := by decide +kernel
theorem dJ7_fill_53178_0 : decode cJ7_fill_53178 0 = .ok (.iconst 0, 1) := by decide +kernel
theorem dJ7_fill_53178_1 : decode cJ7_fill_53178 1 = .ok (.istore_n 2, 1) := by decide +kernel
theorem dJ7_fill_53178_2 : decode cJ7_fill_53178 2 = .ok (.aload_n 0, 1) := by decide +kernel
theorem dJ7_fill_53178_3 : decode cJ7_fill_53178 3 = .ok (.arraylength, 1) := by decide +kernel
theorem dJ7_fill_53178_4 : decode cJ7_fill_53178 4 = .ok (.istore_n 3, 1) := by decide +kernel
theorem dJ7_fill_53178_5 : decode cJ7_fill_53178 5 = .ok (.iload_n 2, 1) := by decide +kernel
theorem dJ7_fill_53178_6 : decode cJ7_fill_53178 6 = .ok (.iload_n 3, 1) := by decide +kernel
theorem dJ7_fill_53178_7 : decode cJ7_fill_53178 7 = .ok (.if_icmp .ge 13, 3) := by decide +kernel
theorem dJ7_fill_53178_10 : decode cJ7_fill_53178 10 = .ok (.aload_n 0, 1) := by decide +kernel
theorem dJ7_fill_53178_11 : decode cJ7_fill_53178 11 = .ok (.iload_n 2, 1) := by decide +kernel
theorem dJ7_fill_53178_12 : decode cJ7_fill_53178 12 = .ok (.iload_n 1, 1) := by decide +kernel
theorem dJ7_fill_53178_13 : decode cJ7_fill_53178 13 = .ok (.iastore, 1) := by decide +kernel
theorem dJ7_fill_53178_14 : decode cJ7_fill_53178 14 = .ok (.iinc 2 1, 3) := by decide +kernel
theorem dJ7_fill_53178_17 : decode cJ7_fill_53178 17 = .ok (.goto (-12), 3) := by decide +kernel
theorem dJ7_fill_53178_20 : decode cJ7_fill_53178 20 = .ok (.return_, 1) := by decide +kernel
