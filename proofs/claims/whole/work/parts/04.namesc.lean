set_option maxRecDepth 20000 in
theorem ggX4_somePlanFits_X4_weigh : GoodIn wsX4_somePlanFits wsX4_weigh := goodIn_r _ [6, 7, 8, 9, 10, 11, 58, 59, 60, 61, 62, 63, 64, 65, 66, 67, 68, 69, 70, 71] (by decide +kernel) (by decide +kernel)
set_option maxRecDepth 20000 in
theorem gX4_somePlanFits_X4_weigh : GoodIn wsX4_somePlanFits (wsV RX4 30 RX4 yX4_weigh wsX4_weigh) := goodIn_app (goodIn_of _ (by decide +kernel)) ggX4_somePlanFits_X4_weigh
set_option maxRecDepth 20000 in
theorem ggX4_somePlanFits_X3_begin : GoodIn wsX4_somePlanFits wsX3_begin := goodIn_r _ [16, 17, 18, 19, 20, 21, 22, 23, 24, 25, 26, 27, 28, 29, 30, 62, 63, 64, 65, 66, 67, 68, 69, 70, 71, 72, 73, 74, 75] (by decide +kernel) (by decide +kernel)
set_option maxRecDepth 20000 in
theorem gX4_somePlanFits_X3_begin : GoodIn wsX4_somePlanFits (wsV RX4 34 RX3 yX3_begin wsX3_begin) := goodIn_app (goodIn_of _ (by decide +kernel)) ggX4_somePlanFits_X3_begin
set_option maxRecDepth 20000 in
theorem ggX4_somePlanFits_X4_countFitting : GoodIn wsX4_somePlanFits wsX4_countFitting := goodIn_r _ [34, 1, 35, 36, 37, 5, 38, 39, 8, 9, 10, 11, 40, 41, 42, 43, 7, 44, 22, 45, 58, 59, 60, 61, 72, 73, 74, 75] (by decide +kernel) (by decide +kernel)
set_option maxRecDepth 20000 in
theorem gX4_somePlanFits_X4_countFitting : GoodIn wsX4_somePlanFits (wsV RX4 47 RX4 yX4_countFitting wsX4_countFitting) := goodIn_app (goodIn_of _ (by decide +kernel)) ggX4_somePlanFits_X4_countFitting
set_option maxRecDepth 20000 in
theorem ggX4_somePlanFits_X3_advance : GoodIn wsX4_somePlanFits wsX3_advance := goodIn_r _ [49, 18, 50, 51, 52, 53, 20, 19, 17, 54, 55, 56, 15, 57, 72, 73, 74, 75] (by decide +kernel) (by decide +kernel)
set_option maxRecDepth 20000 in
theorem gX4_somePlanFits_X3_advance : GoodIn wsX4_somePlanFits (wsV RX4 54 RX3 yX3_advance wsX3_advance) := goodIn_app (goodIn_of _ (by decide +kernel)) ggX4_somePlanFits_X3_advance
theorem dX4_somePlanFits_0 : decode cX4_somePlanFits 0 = .ok (.aload_n 0, 1) := by decide +kernel
theorem dX4_somePlanFits_1 : decode cX4_somePlanFits 1 = .ok (.aload_n 1, 1) := by decide +kernel
theorem dX4_somePlanFits_2 : decode cX4_somePlanFits 2 = .ok (.invokevirtual 30, 3) := by decide +kernel
theorem dX4_somePlanFits_5 : decode cX4_somePlanFits 5 = .ok (.aload_n 0, 1) := by decide +kernel
theorem dX4_somePlanFits_6 : decode cX4_somePlanFits 6 = .ok (.getfield 12, 3) := by decide +kernel
theorem dX4_somePlanFits_9 : decode cX4_somePlanFits 9 = .ok (.aload_n 1, 1) := by decide +kernel
theorem dX4_somePlanFits_10 : decode cX4_somePlanFits 10 = .ok (.iload_n 2, 1) := by decide +kernel
theorem dX4_somePlanFits_11 : decode cX4_somePlanFits 11 = .ok (.invokevirtual 34, 3) := by decide +kernel
theorem dX4_somePlanFits_14 : decode cX4_somePlanFits 14 = .ok (.istore_n 3, 1) := by decide +kernel
theorem dX4_somePlanFits_15 : decode cX4_somePlanFits 15 = .ok (.iconst 0, 1) := by decide +kernel
theorem dX4_somePlanFits_16 : decode cX4_somePlanFits 16 = .ok (.istore 4, 2) := by decide +kernel
theorem dX4_somePlanFits_18 : decode cX4_somePlanFits 18 = .ok (.iload 4, 2) := by decide +kernel
theorem dX4_somePlanFits_20 : decode cX4_somePlanFits 20 = .ok (.sipush 12870, 3) := by decide +kernel
theorem dX4_somePlanFits_23 : decode cX4_somePlanFits 23 = .ok (.if_icmp .ge 54, 3) := by decide +kernel
theorem dX4_somePlanFits_26 : decode cX4_somePlanFits 26 = .ok (.iload_n 3, 1) := by decide +kernel
theorem dX4_somePlanFits_27 : decode cX4_somePlanFits 27 = .ok (.ifCond .eq 50, 3) := by decide +kernel
theorem dX4_somePlanFits_30 : decode cX4_somePlanFits 30 = .ok (.aload_n 0, 1) := by decide +kernel
theorem dX4_somePlanFits_31 : decode cX4_somePlanFits 31 = .ok (.aload_n 1, 1) := by decide +kernel
theorem dX4_somePlanFits_32 : decode cX4_somePlanFits 32 = .ok (.getfield 38, 3) := by decide +kernel
theorem dX4_somePlanFits_35 : decode cX4_somePlanFits 35 = .ok (.aload_n 1, 1) := by decide +kernel
theorem dX4_somePlanFits_36 : decode cX4_somePlanFits 36 = .ok (.getfield 43, 3) := by decide +kernel
theorem dX4_somePlanFits_39 : decode cX4_somePlanFits 39 = .ok (.iload_n 2, 1) := by decide +kernel
theorem dX4_somePlanFits_40 : decode cX4_somePlanFits 40 = .ok (.invokevirtual 47, 3) := by decide +kernel
theorem dX4_somePlanFits_43 : decode cX4_somePlanFits 43 = .ok (.istore 5, 2) := by decide +kernel
theorem dX4_somePlanFits_45 : decode cX4_somePlanFits 45 = .ok (.iload 5, 2) := by decide +kernel
theorem dX4_somePlanFits_47 : decode cX4_somePlanFits 47 = .ok (.aload_n 0, 1) := by decide +kernel
theorem dX4_somePlanFits_48 : decode cX4_somePlanFits 48 = .ok (.getfield 12, 3) := by decide +kernel
theorem dX4_somePlanFits_51 : decode cX4_somePlanFits 51 = .ok (.getfield 51, 3) := by decide +kernel
theorem dX4_somePlanFits_54 : decode cX4_somePlanFits 54 = .ok (.if_icmp .ne 5, 3) := by decide +kernel
theorem dX4_somePlanFits_57 : decode cX4_somePlanFits 57 = .ok (.iconst 1, 1) := by decide +kernel
theorem dX4_somePlanFits_58 : decode cX4_somePlanFits 58 = .ok (.ireturn, 1) := by decide +kernel
theorem dX4_somePlanFits_59 : decode cX4_somePlanFits 59 = .ok (.aload_n 0, 1) := by decide +kernel
theorem dX4_somePlanFits_60 : decode cX4_somePlanFits 60 = .ok (.getfield 12, 3) := by decide +kernel
theorem dX4_somePlanFits_63 : decode cX4_somePlanFits 63 = .ok (.iload 5, 2) := by decide +kernel
theorem dX4_somePlanFits_65 : decode cX4_somePlanFits 65 = .ok (.iconst 1, 1) := by decide +kernel
theorem dX4_somePlanFits_66 : decode cX4_somePlanFits 66 = .ok (.iadd, 1) := by decide +kernel
theorem dX4_somePlanFits_67 : decode cX4_somePlanFits 67 = .ok (.invokevirtual 54, 3) := by decide +kernel
theorem dX4_somePlanFits_70 : decode cX4_somePlanFits 70 = .ok (.istore_n 3, 1) := by decide +kernel
theorem dX4_somePlanFits_71 : decode cX4_somePlanFits 71 = .ok (.iinc 4 1, 3) := by decide +kernel
theorem dX4_somePlanFits_74 : decode cX4_somePlanFits 74 = .ok (.goto (-56), 3) := by decide +kernel
theorem dX4_somePlanFits_77 : decode cX4_somePlanFits 77 = .ok (.iconst 0, 1) := by decide +kernel
theorem dX4_somePlanFits_78 : decode cX4_somePlanFits 78 = .ok (.ireturn, 1) := by decide +kernel
set_option maxRecDepth 20000 in
theorem ggX4_leastRoom_X4_weigh : GoodIn wsX4_leastRoom wsX4_weigh := goodIn_r _ [7, 8, 9, 10, 11, 12, 59, 60, 61, 62, 63, 64, 65, 66, 67, 68, 69, 70, 71, 72] (by decide +kernel) (by decide +kernel)
set_option maxRecDepth 20000 in
theorem gX4_leastRoom_X4_weigh : GoodIn wsX4_leastRoom (wsV RX4 30 RX4 yX4_weigh wsX4_weigh) := goodIn_app (goodIn_of _ (by decide +kernel)) ggX4_leastRoom_X4_weigh
set_option maxRecDepth 20000 in
theorem ggX4_leastRoom_X3_begin : GoodIn wsX4_leastRoom wsX3_begin := goodIn_r _ [17, 18, 19, 20, 21, 22, 23, 24, 25, 26, 27, 28, 29, 30, 31, 63, 64, 65, 66, 67, 68, 69, 70, 71, 72, 73, 74, 75, 76] (by decide +kernel) (by decide +kernel)
set_option maxRecDepth 20000 in
theorem gX4_leastRoom_X3_begin : GoodIn wsX4_leastRoom (wsV RX4 34 RX3 yX3_begin wsX3_begin) := goodIn_app (goodIn_of _ (by decide +kernel)) ggX4_leastRoom_X3_begin
set_option maxRecDepth 20000 in
theorem ggX4_leastRoom_J7_fill_53178 : GoodIn wsX4_leastRoom wsJ7_fill_53178 := goodIn_r _ [12] (by decide +kernel) (by decide +kernel)
set_option maxRecDepth 20000 in
theorem gX4_leastRoom_J7_fill_53178 : GoodIn wsX4_leastRoom (va_wsS RX4 58 yJ7_fill_53178 wsJ7_fill_53178) := goodIn_app (goodIn_of _ (by decide +kernel)) ggX4_leastRoom_J7_fill_53178
set_option maxRecDepth 20000 in
theorem ggX4_leastRoom_X4_countFitting : GoodIn wsX4_leastRoom wsX4_countFitting := goodIn_r _ [35, 1, 36, 37, 38, 6, 39, 40, 9, 10, 11, 12, 41, 42, 43, 44, 8, 45, 23, 46, 59, 60, 61, 62, 73, 74, 75, 76] (by decide +kernel) (by decide +kernel)
set_option maxRecDepth 20000 in
theorem gX4_leastRoom_X4_countFitting : GoodIn wsX4_leastRoom (wsV RX4 47 RX4 yX4_countFitting wsX4_countFitting) := goodIn_app (goodIn_of _ (by decide +kernel)) ggX4_leastRoom_X4_countFitting
set_option maxRecDepth 20000 in
theorem ggX4_leastRoom_X3_advance : GoodIn wsX4_leastRoom wsX3_advance := goodIn_r _ [50, 19, 51, 52, 53, 54, 21, 20, 18, 55, 56, 57, 16, 58, 73, 74, 75, 76] (by decide +kernel) (by decide +kernel)
set_option maxRecDepth 20000 in
theorem gX4_leastRoom_X3_advance : GoodIn wsX4_leastRoom (wsV RX4 54 RX3 yX3_advance wsX3_advance) := goodIn_app (goodIn_of _ (by decide +kernel)) ggX4_leastRoom_X3_advance
theorem dX4_leastRoom_0 : decode cX4_leastRoom 0 = .ok (.aload_n 0, 1) := by decide +kernel
theorem dX4_leastRoom_1 : decode cX4_leastRoom 1 = .ok (.aload_n 1, 1) := by decide +kernel
theorem dX4_leastRoom_2 : decode cX4_leastRoom 2 = .ok (.invokevirtual 30, 3) := by decide +kernel
theorem dX4_leastRoom_5 : decode cX4_leastRoom 5 = .ok (.bipush 100, 2) := by decide +kernel
theorem dX4_leastRoom_7 : decode cX4_leastRoom 7 = .ok (.istore_n 3, 1) := by decide +kernel
theorem dX4_leastRoom_8 : decode cX4_leastRoom 8 = .ok (.aload_n 0, 1) := by decide +kernel
theorem dX4_leastRoom_9 : decode cX4_leastRoom 9 = .ok (.getfield 12, 3) := by decide +kernel
theorem dX4_leastRoom_12 : decode cX4_leastRoom 12 = .ok (.aload_n 1, 1) := by decide +kernel
theorem dX4_leastRoom_13 : decode cX4_leastRoom 13 = .ok (.iload_n 2, 1) := by decide +kernel
theorem dX4_leastRoom_14 : decode cX4_leastRoom 14 = .ok (.invokevirtual 34, 3) := by decide +kernel
theorem dX4_leastRoom_17 : decode cX4_leastRoom 17 = .ok (.istore 4, 2) := by decide +kernel
theorem dX4_leastRoom_19 : decode cX4_leastRoom 19 = .ok (.iconst 0, 1) := by decide +kernel
theorem dX4_leastRoom_20 : decode cX4_leastRoom 20 = .ok (.istore 5, 2) := by decide +kernel
theorem dX4_leastRoom_22 : decode cX4_leastRoom 22 = .ok (.iload 5, 2) := by decide +kernel
theorem dX4_leastRoom_24 : decode cX4_leastRoom 24 = .ok (.sipush 12969, 3) := by decide +kernel
theorem dX4_leastRoom_27 : decode cX4_leastRoom 27 = .ok (.if_icmp .ge 75, 3) := by decide +kernel
theorem dX4_leastRoom_30 : decode cX4_leastRoom 30 = .ok (.iload 4, 2) := by decide +kernel
theorem dX4_leastRoom_32 : decode cX4_leastRoom 32 = .ok (.ifCond .eq 70, 3) := by decide +kernel
theorem dX4_leastRoom_35 : decode cX4_leastRoom 35 = .ok (.iload_n 3, 1) := by decide +kernel
theorem dX4_leastRoom_36 : decode cX4_leastRoom 36 = .ok (.iconst 1, 1) := by decide +kernel
theorem dX4_leastRoom_37 : decode cX4_leastRoom 37 = .ok (.if_icmp .le 65, 3) := by decide +kernel
theorem dX4_leastRoom_40 : decode cX4_leastRoom 40 = .ok (.aload_n 0, 1) := by decide +kernel
theorem dX4_leastRoom_41 : decode cX4_leastRoom 41 = .ok (.getfield 27, 3) := by decide +kernel
theorem dX4_leastRoom_44 : decode cX4_leastRoom 44 = .ok (.iload_n 3, 1) := by decide +kernel
theorem dX4_leastRoom_45 : decode cX4_leastRoom 45 = .ok (.iconst 1, 1) := by decide +kernel
theorem dX4_leastRoom_46 : decode cX4_leastRoom 46 = .ok (.isub, 1) := by decide +kernel
theorem dX4_leastRoom_47 : decode cX4_leastRoom 47 = .ok (.invokestatic 58, 3) := by decide +kernel
theorem dX4_leastRoom_50 : decode cX4_leastRoom 50 = .ok (.aload_n 0, 1) := by decide +kernel
theorem dX4_leastRoom_51 : decode cX4_leastRoom 51 = .ok (.aload_n 0, 1) := by decide +kernel
theorem dX4_leastRoom_52 : decode cX4_leastRoom 52 = .ok (.getfield 27, 3) := by decide +kernel
theorem dX4_leastRoom_55 : decode cX4_leastRoom 55 = .ok (.aload_n 1, 1) := by decide +kernel
theorem dX4_leastRoom_56 : decode cX4_leastRoom 56 = .ok (.getfield 43, 3) := by decide +kernel
theorem dX4_leastRoom_59 : decode cX4_leastRoom 59 = .ok (.iload_n 2, 1) := by decide +kernel
theorem dX4_leastRoom_60 : decode cX4_leastRoom 60 = .ok (.invokevirtual 47, 3) := by decide +kernel
theorem dX4_leastRoom_63 : decode cX4_leastRoom 63 = .ok (.istore 6, 2) := by decide +kernel
theorem dX4_leastRoom_65 : decode cX4_leastRoom 65 = .ok (.iload 6, 2) := by decide +kernel
theorem dX4_leastRoom_67 : decode cX4_leastRoom 67 = .ok (.aload_n 0, 1) := by decide +kernel
theorem dX4_leastRoom_68 : decode cX4_leastRoom 68 = .ok (.getfield 12, 3) := by decide +kernel
theorem dX4_leastRoom_71 : decode cX4_leastRoom 71 = .ok (.getfield 51, 3) := by decide +kernel
theorem dX4_leastRoom_74 : decode cX4_leastRoom 74 = .ok (.if_icmp .ne 9, 3) := by decide +kernel
theorem dX4_leastRoom_77 : decode cX4_leastRoom 77 = .ok (.iinc 3 (-1), 3) := by decide +kernel
theorem dX4_leastRoom_80 : decode cX4_leastRoom 80 = .ok (.goto 16, 3) := by decide +kernel
theorem dX4_leastRoom_83 : decode cX4_leastRoom 83 = .ok (.aload_n 0, 1) := by decide +kernel
theorem dX4_leastRoom_84 : decode cX4_leastRoom 84 = .ok (.getfield 12, 3) := by decide +kernel
theorem dX4_leastRoom_87 : decode cX4_leastRoom 87 = .ok (.iload 6, 2) := by decide +kernel
theorem dX4_leastRoom_89 : decode cX4_leastRoom 89 = .ok (.iconst 1, 1) := by decide +kernel
theorem dX4_leastRoom_90 : decode cX4_leastRoom 90 = .ok (.iadd, 1) := by decide +kernel
theorem dX4_leastRoom_91 : decode cX4_leastRoom 91 = .ok (.invokevirtual 54, 3) := by decide +kernel
theorem dX4_leastRoom_94 : decode cX4_leastRoom 94 = .ok (.istore 4, 2) := by decide +kernel
theorem dX4_leastRoom_96 : decode cX4_leastRoom 96 = .ok (.iinc 5 1, 3) := by decide +kernel
theorem dX4_leastRoom_99 : decode cX4_leastRoom 99 = .ok (.goto (-77), 3) := by decide +kernel
theorem dX4_leastRoom_102 : decode cX4_leastRoom 102 = .ok (.iload_n 3, 1) := by decide +kernel
theorem dX4_leastRoom_103 : decode cX4_leastRoom 103 = .ok (.ireturn, 1) := by decide +kernel
set_option maxRecDepth 20000 in
theorem ggX4_weigh_J7_fill_53178 : GoodIn wsX4_weigh wsJ7_fill_53178 := goodIn_r _ [5] (by decide +kernel) (by decide +kernel)
set_option maxRecDepth 20000 in
theorem gX4_weigh_J7_fill_53178 : GoodIn wsX4_weigh (va_wsS RX4 58 yJ7_fill_53178 wsJ7_fill_53178) := goodIn_app (goodIn_of _ (by decide +kernel)) ggX4_weigh_J7_fill_53178
theorem dX4_weigh_0 : decode cX4_weigh 0 = .ok (.aload_n 0, 1) := by decide +kernel
theorem dX4_weigh_1 : decode cX4_weigh 1 = .ok (.getfield 18, 3) := by decide +kernel
theorem dX4_weigh_4 : decode cX4_weigh 4 = .ok (.iconst 0, 1) := by decide +kernel
theorem dX4_weigh_5 : decode cX4_weigh 5 = .ok (.invokestatic 58, 3) := by decide +kernel
theorem dX4_weigh_8 : decode cX4_weigh 8 = .ok (.iconst 0, 1) := by decide +kernel
theorem dX4_weigh_9 : decode cX4_weigh 9 = .ok (.istore_n 2, 1) := by decide +kernel
theorem dX4_weigh_10 : decode cX4_weigh 10 = .ok (.iload_n 2, 1) := by decide +kernel
theorem dX4_weigh_11 : decode cX4_weigh 11 = .ok (.aload_n 1, 1) := by decide +kernel
theorem dX4_weigh_12 : decode cX4_weigh 12 = .ok (.getfield 64, 3) := by decide +kernel
theorem dX4_weigh_15 : decode cX4_weigh 15 = .ok (.if_icmp .ge 38, 3) := by decide +kernel
theorem dX4_weigh_18 : decode cX4_weigh 18 = .ok (.aload_n 1, 1) := by decide +kernel
theorem dX4_weigh_19 : decode cX4_weigh 19 = .ok (.getfield 67, 3) := by decide +kernel
theorem dX4_weigh_22 : decode cX4_weigh 22 = .ok (.iload_n 2, 1) := by decide +kernel
theorem dX4_weigh_23 : decode cX4_weigh 23 = .ok (.iaload, 1) := by decide +kernel
theorem dX4_weigh_24 : decode cX4_weigh 24 = .ok (.ifCond .ne 23, 3) := by decide +kernel
theorem dX4_weigh_27 : decode cX4_weigh 27 = .ok (.aload_n 0, 1) := by decide +kernel
theorem dX4_weigh_28 : decode cX4_weigh 28 = .ok (.getfield 18, 3) := by decide +kernel
theorem dX4_weigh_31 : decode cX4_weigh 31 = .ok (.aload_n 1, 1) := by decide +kernel
theorem dX4_weigh_32 : decode cX4_weigh 32 = .ok (.getfield 70, 3) := by decide +kernel
theorem dX4_weigh_35 : decode cX4_weigh 35 = .ok (.iload_n 2, 1) := by decide +kernel
theorem dX4_weigh_36 : decode cX4_weigh 36 = .ok (.iaload, 1) := by decide +kernel
theorem dX4_weigh_37 : decode cX4_weigh 37 = .ok (.dup2, 1) := by decide +kernel
theorem dX4_weigh_38 : decode cX4_weigh 38 = .ok (.iaload, 1) := by decide +kernel
theorem dX4_weigh_39 : decode cX4_weigh 39 = .ok (.aload_n 1, 1) := by decide +kernel
theorem dX4_weigh_40 : decode cX4_weigh 40 = .ok (.getfield 73, 3) := by decide +kernel
theorem dX4_weigh_43 : decode cX4_weigh 43 = .ok (.iload_n 2, 1) := by decide +kernel
theorem dX4_weigh_44 : decode cX4_weigh 44 = .ok (.iaload, 1) := by decide +kernel
theorem dX4_weigh_45 : decode cX4_weigh 45 = .ok (.iadd, 1) := by decide +kernel
theorem dX4_weigh_46 : decode cX4_weigh 46 = .ok (.iastore, 1) := by decide +kernel
theorem dX4_weigh_47 : decode cX4_weigh 47 = .ok (.iinc 2 1, 3) := by decide +kernel
theorem dX4_weigh_50 : decode cX4_weigh 50 = .ok (.goto (-40), 3) := by decide +kernel
theorem dX4_weigh_53 : decode cX4_weigh 53 = .ok (.return_, 1) := by decide +kernel
set_option maxRecDepth 20000 in
theorem ggX4_countFitting_X4_empty : GoodIn wsX4_countFitting wsX4_empty := goodIn_r _ [6, 7, 8, 9, 10, 11, 20, 21, 22, 23] (by decide +kernel) (by decide +kernel)
set_option maxRecDepth 20000 in
theorem gX4_countFitting_X4_empty : GoodIn wsX4_countFitting (wsV RX4 76 RX4 yX4_empty wsX4_empty) := goodIn_app (goodIn_of _ (by decide +kernel)) ggX4_countFitting_X4_empty
set_option maxRecDepth 20000 in
theorem ggX4_countFitting_X4_pointFits : GoodIn wsX4_countFitting wsX4_pointFits := goodIn_r _ [15, 1, 7, 16, 17, 18, 19, 20, 21, 22, 23, 24, 25, 26, 27] (by decide +kernel) (by decide +kernel)
set_option maxRecDepth 20000 in
theorem gX4_countFitting_X4_pointFits : GoodIn wsX4_countFitting (wsV RX4 81 RX4 yX4_pointFits wsX4_pointFits) := goodIn_app (goodIn_of _ (by decide +kernel)) ggX4_countFitting_X4_pointFits
theorem dX4_countFitting_0 : decode cX4_countFitting 0 = .ok (.aload_n 0, 1) := by decide +kernel
theorem dX4_countFitting_1 : decode cX4_countFitting 1 = .ok (.iload_n 3, 1) := by decide +kernel
theorem dX4_countFitting_2 : decode cX4_countFitting 2 = .ok (.invokevirtual 76, 3) := by decide +kernel
theorem dX4_countFitting_5 : decode cX4_countFitting 5 = .ok (.iconst 0, 1) := by decide +kernel
theorem dX4_countFitting_6 : decode cX4_countFitting 6 = .ok (.istore 4, 2) := by decide +kernel
theorem dX4_countFitting_8 : decode cX4_countFitting 8 = .ok (.iload 4, 2) := by decide +kernel
theorem dX4_countFitting_10 : decode cX4_countFitting 10 = .ok (.aload_n 0, 1) := by decide +kernel
theorem dX4_countFitting_11 : decode cX4_countFitting 11 = .ok (.getfield 12, 3) := by decide +kernel
theorem dX4_countFitting_14 : decode cX4_countFitting 14 = .ok (.getfield 51, 3) := by decide +kernel
theorem dX4_countFitting_17 : decode cX4_countFitting 17 = .ok (.if_icmp .ge 32, 3) := by decide +kernel
theorem dX4_countFitting_20 : decode cX4_countFitting 20 = .ok (.aload_n 0, 1) := by decide +kernel
theorem dX4_countFitting_21 : decode cX4_countFitting 21 = .ok (.aload_n 0, 1) := by decide +kernel
theorem dX4_countFitting_22 : decode cX4_countFitting 22 = .ok (.getfield 12, 3) := by decide +kernel
theorem dX4_countFitting_25 : decode cX4_countFitting 25 = .ok (.getfield 80, 3) := by decide +kernel
theorem dX4_countFitting_28 : decode cX4_countFitting 28 = .ok (.iload 4, 2) := by decide +kernel
theorem dX4_countFitting_30 : decode cX4_countFitting 30 = .ok (.iaload, 1) := by decide +kernel
theorem dX4_countFitting_31 : decode cX4_countFitting 31 = .ok (.aload_n 1, 1) := by decide +kernel
theorem dX4_countFitting_32 : decode cX4_countFitting 32 = .ok (.iload_n 2, 1) := by decide +kernel
theorem dX4_countFitting_33 : decode cX4_countFitting 33 = .ok (.iload_n 3, 1) := by decide +kernel
theorem dX4_countFitting_34 : decode cX4_countFitting 34 = .ok (.invokevirtual 81, 3) := by decide +kernel
theorem dX4_countFitting_37 : decode cX4_countFitting 37 = .ok (.ifCond .ne 6, 3) := by decide +kernel
theorem dX4_countFitting_40 : decode cX4_countFitting 40 = .ok (.iload 4, 2) := by decide +kernel
theorem dX4_countFitting_42 : decode cX4_countFitting 42 = .ok (.ireturn, 1) := by decide +kernel
theorem dX4_countFitting_43 : decode cX4_countFitting 43 = .ok (.iinc 4 1, 3) := by decide +kernel
theorem dX4_countFitting_46 : decode cX4_countFitting 46 = .ok (.goto (-38), 3) := by decide +kernel
theorem dX4_countFitting_49 : decode cX4_countFitting 49 = .ok (.aload_n 0, 1) := by decide +kernel
theorem dX4_countFitting_50 : decode cX4_countFitting 50 = .ok (.getfield 12, 3) := by decide +kernel
theorem dX4_countFitting_53 : decode cX4_countFitting 53 = .ok (.getfield 51, 3) := by decide +kernel
theorem dX4_countFitting_56 : decode cX4_countFitting 56 = .ok (.ireturn, 1) := by decide +kernel
set_option maxRecDepth 20000 in
theorem ggX4_empty_J7_fill_53178 : GoodIn wsX4_empty wsJ7_fill_53178 := goodIn_r _ [5] (by decide +kernel) (by decide +kernel)
set_option maxRecDepth 20000 in
theorem gX4_empty_J7_fill_53178 : GoodIn wsX4_empty (va_wsS RX4 58 yJ7_fill_53178 wsJ7_fill_53178) := goodIn_app (goodIn_of _ (by decide +kernel)) ggX4_empty_J7_fill_53178
theorem dX4_empty_0 : decode cX4_empty 0 = .ok (.iconst 0, 1) := by decide +kernel
theorem dX4_empty_1 : decode cX4_empty 1 = .ok (.istore_n 2, 1) := by decide +kernel
theorem dX4_empty_2 : decode cX4_empty 2 = .ok (.iload_n 2, 1) := by decide +kernel
theorem dX4_empty_3 : decode cX4_empty 3 = .ok (.iload_n 1, 1) := by decide +kernel
theorem dX4_empty_4 : decode cX4_empty 4 = .ok (.if_icmp .ge 19, 3) := by decide +kernel
theorem dX4_empty_7 : decode cX4_empty 7 = .ok (.aload_n 0, 1) := by decide +kernel
theorem dX4_empty_8 : decode cX4_empty 8 = .ok (.getfield 24, 3) := by decide +kernel
theorem dX4_empty_11 : decode cX4_empty 11 = .ok (.iload_n 2, 1) := by decide +kernel
theorem dX4_empty_12 : decode cX4_empty 12 = .ok (.aaload, 1) := by decide +kernel
theorem dX4_empty_13 : decode cX4_empty 13 = .ok (.iconst 0, 1) := by decide +kernel
theorem dX4_empty_14 : decode cX4_empty 14 = .ok (.invokestatic 58, 3) := by decide +kernel
theorem dX4_empty_17 : decode cX4_empty 17 = .ok (.iinc 2 1, 3) := by decide +kernel
theorem dX4_empty_20 : decode cX4_empty 20 = .ok (.goto (-18), 3) := by decide +kernel
theorem dX4_empty_23 : decode cX4_empty 23 = .ok (.return_, 1) := by decide +kernel
set_option maxRecDepth 20000 in
theorem ggX4_pointFits_X5_figure : GoodIn wsX4_pointFits wsX5_figure := goodIn_r _ [6] (by decide +kernel) (by decide +kernel)
set_option maxRecDepth 20000 in
theorem gX4_pointFits_X5_figure_n88 : GoodIn wsX4_pointFits (wsX5_figure) := ggX4_pointFits_X5_figure
theorem dX4_pointFits_0 : decode cX4_pointFits 0 = .ok (.iconst 1, 1) := by decide +kernel
theorem dX4_pointFits_1 : decode cX4_pointFits 1 = .ok (.istore 5, 2) := by decide +kernel
theorem dX4_pointFits_3 : decode cX4_pointFits 3 = .ok (.iconst 0, 1) := by decide +kernel
theorem dX4_pointFits_4 : decode cX4_pointFits 4 = .ok (.istore 6, 2) := by decide +kernel
theorem dX4_pointFits_6 : decode cX4_pointFits 6 = .ok (.iload 6, 2) := by decide +kernel
theorem dX4_pointFits_8 : decode cX4_pointFits 8 = .ok (.iload 4, 2) := by decide +kernel
theorem dX4_pointFits_10 : decode cX4_pointFits 10 = .ok (.if_icmp .ge 70, 3) := by decide +kernel
theorem dX4_pointFits_13 : decode cX4_pointFits 13 = .ok (.aload_n 0, 1) := by decide +kernel
theorem dX4_pointFits_14 : decode cX4_pointFits 14 = .ok (.getfield 12, 3) := by decide +kernel
theorem dX4_pointFits_17 : decode cX4_pointFits 17 = .ok (.getfield 85, 3) := by decide +kernel
theorem dX4_pointFits_20 : decode cX4_pointFits 20 = .ok (.iload_n 1, 1) := by decide +kernel
theorem dX4_pointFits_21 : decode cX4_pointFits 21 = .ok (.iaload, 1) := by decide +kernel
theorem dX4_pointFits_22 : decode cX4_pointFits 22 = .ok (.iload 5, 2) := by decide +kernel
theorem dX4_pointFits_24 : decode cX4_pointFits 24 = .ok (.iload_n 3, 1) := by decide +kernel
theorem dX4_pointFits_25 : decode cX4_pointFits 25 = .ok (.invokestatic 88, 3) := by decide +kernel
theorem dX4_pointFits_28 : decode cX4_pointFits 28 = .ok (.istore 7, 2) := by decide +kernel
theorem dX4_pointFits_30 : decode cX4_pointFits 30 = .ok (.aload_n 0, 1) := by decide +kernel
theorem dX4_pointFits_31 : decode cX4_pointFits 31 = .ok (.getfield 24, 3) := by decide +kernel
theorem dX4_pointFits_34 : decode cX4_pointFits 34 = .ok (.iload 6, 2) := by decide +kernel
theorem dX4_pointFits_36 : decode cX4_pointFits 36 = .ok (.aaload, 1) := by decide +kernel
theorem dX4_pointFits_37 : decode cX4_pointFits 37 = .ok (.iload 7, 2) := by decide +kernel
theorem dX4_pointFits_39 : decode cX4_pointFits 39 = .ok (.dup2, 1) := by decide +kernel
theorem dX4_pointFits_40 : decode cX4_pointFits 40 = .ok (.iaload, 1) := by decide +kernel
theorem dX4_pointFits_41 : decode cX4_pointFits 41 = .ok (.aload_n 0, 1) := by decide +kernel
theorem dX4_pointFits_42 : decode cX4_pointFits 42 = .ok (.getfield 18, 3) := by decide +kernel
theorem dX4_pointFits_45 : decode cX4_pointFits 45 = .ok (.iload_n 1, 1) := by decide +kernel
theorem dX4_pointFits_46 : decode cX4_pointFits 46 = .ok (.iaload, 1) := by decide +kernel
theorem dX4_pointFits_47 : decode cX4_pointFits 47 = .ok (.iadd, 1) := by decide +kernel
theorem dX4_pointFits_48 : decode cX4_pointFits 48 = .ok (.iastore, 1) := by decide +kernel
theorem dX4_pointFits_49 : decode cX4_pointFits 49 = .ok (.aload_n 0, 1) := by decide +kernel
theorem dX4_pointFits_50 : decode cX4_pointFits 50 = .ok (.getfield 24, 3) := by decide +kernel
theorem dX4_pointFits_53 : decode cX4_pointFits 53 = .ok (.iload 6, 2) := by decide +kernel
theorem dX4_pointFits_55 : decode cX4_pointFits 55 = .ok (.aaload, 1) := by decide +kernel
theorem dX4_pointFits_56 : decode cX4_pointFits 56 = .ok (.iload 7, 2) := by decide +kernel
theorem dX4_pointFits_58 : decode cX4_pointFits 58 = .ok (.iaload, 1) := by decide +kernel
theorem dX4_pointFits_59 : decode cX4_pointFits 59 = .ok (.aload_n 2, 1) := by decide +kernel
theorem dX4_pointFits_60 : decode cX4_pointFits 60 = .ok (.iload 7, 2) := by decide +kernel
theorem dX4_pointFits_62 : decode cX4_pointFits 62 = .ok (.iaload, 1) := by decide +kernel
theorem dX4_pointFits_63 : decode cX4_pointFits 63 = .ok (.if_icmp .le 5, 3) := by decide +kernel
theorem dX4_pointFits_66 : decode cX4_pointFits 66 = .ok (.iconst 0, 1) := by decide +kernel
theorem dX4_pointFits_67 : decode cX4_pointFits 67 = .ok (.ireturn, 1) := by decide +kernel
theorem dX4_pointFits_68 : decode cX4_pointFits 68 = .ok (.iload 5, 2) := by decide +kernel
theorem dX4_pointFits_70 : decode cX4_pointFits 70 = .ok (.iload_n 3, 1) := by decide +kernel
theorem dX4_pointFits_71 : decode cX4_pointFits 71 = .ok (.imul, 1) := by decide +kernel
theorem dX4_pointFits_72 : decode cX4_pointFits 72 = .ok (.istore 5, 2) := by decide +kernel
theorem dX4_pointFits_74 : decode cX4_pointFits 74 = .ok (.iinc 6 1, 3) := by decide +kernel
theorem dX4_pointFits_77 : decode cX4_pointFits 77 = .ok (.goto (-71), 3) := by decide +kernel
theorem dX4_pointFits_80 : decode cX4_pointFits 80 = .ok (.iconst 1, 1) := by decide +kernel
theorem dX4_pointFits_81 : decode cX4_pointFits 81 = .ok (.ireturn, 1) := by decide +kernel
set_option maxRecDepth 20000 in
theorem ggX5_init_X1_init : GoodIn wsX5_init wsX1_init := goodIn_r _ [23, 24, 2, 3, 25, 26, 27, 28, 29, 30, 31, 32, 33, 34, 35, 36, 37, 72, 73, 74, 75, 76, 77, 78, 79, 80, 81] (by decide +kernel) (by decide +kernel)
set_option maxRecDepth 20000 in
theorem gX5_init_X1_init : GoodIn wsX5_init (wsX1_init) := ggX5_init_X1_init
set_option maxRecDepth 20000 in
theorem ggX5_init_X2_init : GoodIn wsX5_init wsX2_init := goodIn_r _ [39, 40, 2, 3, 25, 41, 42, 43, 44, 45, 46, 47, 88, 89, 90, 91, 92, 93, 94] (by decide +kernel) (by decide +kernel)
set_option maxRecDepth 20000 in
theorem gX5_init_X2_init_n22 : GoodIn wsX5_init (wsX2_init) := ggX5_init_X2_init
set_option maxRecDepth 20000 in
theorem ggX5_init_X0_init : GoodIn wsX5_init wsX0_init := goodIn_r _ [49, 50, 2, 3, 51, 52, 53, 54, 55, 10, 11, 56, 25, 57, 58, 59, 60, 61, 62, 38, 39, 40, 41, 42, 43, 44, 45, 46, 47, 107, 108, 109, 110, 95, 96, 97, 98, 99, 100, 101, 102, 88, 89, 90, 91, 92, 93, 94] (by decide +kernel) (by decide +kernel)
set_option maxRecDepth 20000 in
theorem gX5_init_X0_init_n29 : GoodIn wsX5_init (wsX0_init) := ggX5_init_X0_init
set_option maxRecDepth 20000 in
theorem ggX5_init_X4_init : GoodIn wsX5_init wsX4_init := goodIn_r _ [64, 65, 2, 3, 66, 52, 53, 67, 25, 68, 69, 70, 71, 58, 59, 60, 61, 62, 107, 108, 109, 110, 103, 104, 105, 106] (by decide +kernel) (by decide +kernel)
set_option maxRecDepth 20000 in
theorem gX5_init_X4_init_n36 : GoodIn wsX5_init (wsX4_init) := ggX5_init_X4_init
theorem dX5_init_0 : decode cX5_init 0 = .ok (.aload_n 0, 1) := by decide +kernel
theorem dX5_init_1 : decode cX5_init 1 = .ok (.invokespecial 1, 3) := by decide +kernel
theorem dX5_init_4 : decode cX5_init 4 = .ok (.aload_n 0, 1) := by decide +kernel
theorem dX5_init_5 : decode cX5_init 5 = .ok (.new 7, 3) := by decide +kernel
theorem dX5_init_8 : decode cX5_init 8 = .ok (.dup, 1) := by decide +kernel
theorem dX5_init_9 : decode cX5_init 9 = .ok (.invokespecial 9, 3) := by decide +kernel
theorem dX5_init_12 : decode cX5_init 12 = .ok (.putfield 10, 3) := by decide +kernel
theorem dX5_init_15 : decode cX5_init 15 = .ok (.aload_n 0, 1) := by decide +kernel
theorem dX5_init_16 : decode cX5_init 16 = .ok (.iconst 2, 1) := by decide +kernel
theorem dX5_init_17 : decode cX5_init 17 = .ok (.anewarray 7, 3) := by decide +kernel
theorem dX5_init_20 : decode cX5_init 20 = .ok (.putfield 16, 3) := by decide +kernel
theorem dX5_init_23 : decode cX5_init 23 = .ok (.aload_n 0, 1) := by decide +kernel
theorem dX5_init_24 : decode cX5_init 24 = .ok (.new 20, 3) := by decide +kernel
theorem dX5_init_27 : decode cX5_init 27 = .ok (.dup, 1) := by decide +kernel
theorem dX5_init_28 : decode cX5_init 28 = .ok (.invokespecial 22, 3) := by decide +kernel
theorem dX5_init_31 : decode cX5_init 31 = .ok (.putfield 23, 3) := by decide +kernel
theorem dX5_init_34 : decode cX5_init 34 = .ok (.aload_n 0, 1) := by decide +kernel
theorem dX5_init_35 : decode cX5_init 35 = .ok (.new 27, 3) := by decide +kernel
theorem dX5_init_38 : decode cX5_init 38 = .ok (.dup, 1) := by decide +kernel
theorem dX5_init_39 : decode cX5_init 39 = .ok (.invokespecial 29, 3) := by decide +kernel
theorem dX5_init_42 : decode cX5_init 42 = .ok (.putfield 30, 3) := by decide +kernel
theorem dX5_init_45 : decode cX5_init 45 = .ok (.aload_n 0, 1) := by decide +kernel
theorem dX5_init_46 : decode cX5_init 46 = .ok (.new 34, 3) := by decide +kernel
theorem dX5_init_49 : decode cX5_init 49 = .ok (.dup, 1) := by decide +kernel
theorem dX5_init_50 : decode cX5_init 50 = .ok (.invokespecial 36, 3) := by decide +kernel
theorem dX5_init_53 : decode cX5_init 53 = .ok (.putfield 37, 3) := by decide +kernel
theorem dX5_init_56 : decode cX5_init 56 = .ok (.iconst 0, 1) := by decide +kernel
theorem dX5_init_57 : decode cX5_init 57 = .ok (.istore_n 1, 1) := by decide +kernel
theorem dX5_init_58 : decode cX5_init 58 = .ok (.iload_n 1, 1) := by decide +kernel
theorem dX5_init_59 : decode cX5_init 59 = .ok (.iconst 2, 1) := by decide +kernel
theorem dX5_init_60 : decode cX5_init 60 = .ok (.if_icmp .ge 22, 3) := by decide +kernel
theorem dX5_init_63 : decode cX5_init 63 = .ok (.aload_n 0, 1) := by decide +kernel
theorem dX5_init_64 : decode cX5_init 64 = .ok (.getfield 16, 3) := by decide +kernel
theorem dX5_init_67 : decode cX5_init 67 = .ok (.iload_n 1, 1) := by decide +kernel
theorem dX5_init_68 : decode cX5_init 68 = .ok (.new 7, 3) := by decide +kernel
theorem dX5_init_71 : decode cX5_init 71 = .ok (.dup, 1) := by decide +kernel
theorem dX5_init_72 : decode cX5_init 72 = .ok (.invokespecial 9, 3) := by decide +kernel
theorem dX5_init_75 : decode cX5_init 75 = .ok (.aastore, 1) := by decide +kernel
theorem dX5_init_76 : decode cX5_init 76 = .ok (.iinc 1 1, 3) := by decide +kernel
theorem dX5_init_79 : decode cX5_init 79 = .ok (.goto (-21), 3) := by decide +kernel
theorem dX5_init_82 : decode cX5_init 82 = .ok (.return_, 1) := by decide +kernel
set_option maxRecDepth 20000 in
theorem ggX5_letter_X5_isPoint : GoodIn wsX5_letter wsX5_isPoint := goodIn_r _ [5, 6, 7, 4, 8] (by decide +kernel) (by decide +kernel)
set_option maxRecDepth 20000 in
theorem gX5_letter_X5_isPoint : GoodIn wsX5_letter (va_wsS RX5 41 yX5_isPoint wsX5_isPoint) := goodIn_app (goodIn_of _ (by decide +kernel)) ggX5_letter_X5_isPoint
set_option maxRecDepth 20000 in
theorem ggX5_letter_X5_isWithin : GoodIn wsX5_letter wsX5_isWithin := goodIn_r _ [8] (by decide +kernel) (by decide +kernel)
set_option maxRecDepth 20000 in
theorem gX5_letter_X5_isWithin : GoodIn wsX5_letter (va_wsS RX5 45 yX5_isWithin wsX5_isWithin) := goodIn_app (goodIn_of _ (by decide +kernel)) ggX5_letter_X5_isWithin
set_option maxRecDepth 20000 in
theorem ggX5_letter_X1_add : GoodIn wsX5_letter wsX1_add := goodIn_r _ [13, 14, 15, 16, 17, 18, 25, 26, 27, 28, 29, 30, 31, 32, 33, 34] (by decide +kernel) (by decide +kernel)
set_option maxRecDepth 20000 in
theorem gX5_letter_X1_add : GoodIn wsX5_letter (wsV RX5 53 RX1 yX1_add wsX1_add) := goodIn_app (goodIn_of _ (by decide +kernel)) ggX5_letter_X1_add
theorem dX5_letter_0 : decode cX5_letter 0 = .ok (.iload_n 1, 1) := by decide +kernel
theorem dX5_letter_1 : decode cX5_letter 1 = .ok (.invokestatic 41, 3) := by decide +kernel
theorem dX5_letter_4 : decode cX5_letter 4 = .ok (.ifCond .ne 5, 3) := by decide +kernel
theorem dX5_letter_7 : decode cX5_letter 7 = .ok (.iconst (-1), 1) := by decide +kernel
theorem dX5_letter_8 : decode cX5_letter 8 = .ok (.ireturn, 1) := by decide +kernel
theorem dX5_letter_9 : decode cX5_letter 9 = .ok (.iload_n 2, 1) := by decide +kernel
theorem dX5_letter_10 : decode cX5_letter 10 = .ok (.iconst 1, 1) := by decide +kernel
theorem dX5_letter_11 : decode cX5_letter 11 = .ok (.bipush 9, 2) := by decide +kernel
theorem dX5_letter_13 : decode cX5_letter 13 = .ok (.invokestatic 45, 3) := by decide +kernel
theorem dX5_letter_16 : decode cX5_letter 16 = .ok (.ifCond .ne 6, 3) := by decide +kernel
theorem dX5_letter_19 : decode cX5_letter 19 = .ok (.bipush (-2), 2) := by decide +kernel
theorem dX5_letter_21 : decode cX5_letter 21 = .ok (.ireturn, 1) := by decide +kernel
theorem dX5_letter_22 : decode cX5_letter 22 = .ok (.aload_n 0, 1) := by decide +kernel
theorem dX5_letter_23 : decode cX5_letter 23 = .ok (.getfield 10, 3) := by decide +kernel
theorem dX5_letter_26 : decode cX5_letter 26 = .ok (.getfield 49, 3) := by decide +kernel
theorem dX5_letter_29 : decode cX5_letter 29 = .ok (.bipush 24, 2) := by decide +kernel
theorem dX5_letter_31 : decode cX5_letter 31 = .ok (.if_icmp .lt 6, 3) := by decide +kernel
theorem dX5_letter_34 : decode cX5_letter 34 = .ok (.bipush (-4), 2) := by decide +kernel
theorem dX5_letter_36 : decode cX5_letter 36 = .ok (.ireturn, 1) := by decide +kernel
theorem dX5_letter_37 : decode cX5_letter 37 = .ok (.aload_n 0, 1) := by decide +kernel
theorem dX5_letter_38 : decode cX5_letter 38 = .ok (.getfield 10, 3) := by decide +kernel
theorem dX5_letter_41 : decode cX5_letter 41 = .ok (.iload_n 1, 1) := by decide +kernel
theorem dX5_letter_42 : decode cX5_letter 42 = .ok (.iload_n 2, 1) := by decide +kernel
theorem dX5_letter_43 : decode cX5_letter 43 = .ok (.invokevirtual 53, 3) := by decide +kernel
theorem dX5_letter_46 : decode cX5_letter 46 = .ok (.ireturn, 1) := by decide +kernel
set_option maxRecDepth 20000 in
theorem ggX5_misread_X5_isLetter : GoodIn wsX5_misread wsX5_isLetter := goodIn_r _ [6, 1, 7, 8, 5, 9, 25, 26, 27, 28, 29, 30, 31, 32, 33, 34, 35, 36, 37, 38, 39, 40] (by decide +kernel) (by decide +kernel)
set_option maxRecDepth 20000 in
theorem gX5_misread_X5_isLetter : GoodIn wsX5_misread (wsV RX5 57 RX5 yX5_isLetter wsX5_isLetter) := goodIn_app (goodIn_of _ (by decide +kernel)) ggX5_misread_X5_isLetter
set_option maxRecDepth 20000 in
theorem ggX5_misread_X5_isWithin : GoodIn wsX5_misread wsX5_isWithin := goodIn_r _ [9] (by decide +kernel) (by decide +kernel)
set_option maxRecDepth 20000 in
theorem gX5_misread_X5_isWithin : GoodIn wsX5_misread (va_wsS RX5 45 yX5_isWithin wsX5_isWithin) := goodIn_app (goodIn_of _ (by decide +kernel)) ggX5_misread_X5_isWithin
set_option maxRecDepth 20000 in
theorem ggX5_misread_X1_mark : GoodIn wsX5_misread wsX1_mark := goodIn_r _ [14, 15, 16, 31, 32, 33, 34, 35, 36, 37, 38, 39, 40] (by decide +kernel) (by decide +kernel)
set_option maxRecDepth 20000 in
theorem gX5_misread_X1_mark : GoodIn wsX5_misread (wsV RX5 60 RX1 yX1_mark wsX1_mark) := goodIn_app (goodIn_of _ (by decide +kernel)) ggX5_misread_X1_mark
set_option maxRecDepth 20000 in
theorem ggX5_misread_X1_countMisread : GoodIn wsX5_misread wsX1_countMisread := goodIn_r _ [20, 15, 21, 22, 23, 13, 24, 31, 32, 33, 34, 35, 36, 37, 38, 39, 40] (by decide +kernel) (by decide +kernel)
set_option maxRecDepth 20000 in
theorem gX5_misread_X1_countMisread : GoodIn wsX5_misread (wsV RX5 64 RX1 yX1_countMisread wsX1_countMisread) := goodIn_app (goodIn_of _ (by decide +kernel)) ggX5_misread_X1_countMisread
theorem dX5_misread_0 : decode cX5_misread 0 = .ok (.aload_n 0, 1) := by decide +kernel
theorem dX5_misread_1 : decode cX5_misread 1 = .ok (.iload_n 1, 1) := by decide +kernel
theorem dX5_misread_2 : decode cX5_misread 2 = .ok (.invokevirtual 57, 3) := by decide +kernel
theorem dX5_misread_5 : decode cX5_misread 5 = .ok (.ifCond .ne 5, 3) := by decide +kernel
theorem dX5_misread_8 : decode cX5_misread 8 = .ok (.iconst (-1), 1) := by decide +kernel
theorem dX5_misread_9 : decode cX5_misread 9 = .ok (.ireturn, 1) := by decide +kernel
theorem dX5_misread_10 : decode cX5_misread 10 = .ok (.iload_n 2, 1) := by decide +kernel
theorem dX5_misread_11 : decode cX5_misread 11 = .ok (.iconst 0, 1) := by decide +kernel
theorem dX5_misread_12 : decode cX5_misread 12 = .ok (.iconst 1, 1) := by decide +kernel
theorem dX5_misread_13 : decode cX5_misread 13 = .ok (.invokestatic 45, 3) := by decide +kernel
theorem dX5_misread_16 : decode cX5_misread 16 = .ok (.ifCond .ne 6, 3) := by decide +kernel
theorem dX5_misread_19 : decode cX5_misread 19 = .ok (.bipush (-2), 2) := by decide +kernel
theorem dX5_misread_21 : decode cX5_misread 21 = .ok (.ireturn, 1) := by decide +kernel
theorem dX5_misread_22 : decode cX5_misread 22 = .ok (.aload_n 0, 1) := by decide +kernel
theorem dX5_misread_23 : decode cX5_misread 23 = .ok (.getfield 10, 3) := by decide +kernel
theorem dX5_misread_26 : decode cX5_misread 26 = .ok (.iload_n 1, 1) := by decide +kernel
theorem dX5_misread_27 : decode cX5_misread 27 = .ok (.iload_n 2, 1) := by decide +kernel
theorem dX5_misread_28 : decode cX5_misread 28 = .ok (.invokevirtual 60, 3) := by decide +kernel
theorem dX5_misread_31 : decode cX5_misread 31 = .ok (.aload_n 0, 1) := by decide +kernel
theorem dX5_misread_32 : decode cX5_misread 32 = .ok (.getfield 10, 3) := by decide +kernel
theorem dX5_misread_35 : decode cX5_misread 35 = .ok (.invokevirtual 64, 3) := by decide +kernel
theorem dX5_misread_38 : decode cX5_misread 38 = .ok (.ireturn, 1) := by decide +kernel
set_option maxRecDepth 20000 in
theorem ggX5_drop_X5_isLetter : GoodIn wsX5_drop wsX5_isLetter := goodIn_r _ [6, 1, 7, 8, 5, 9, 20, 21, 22, 23, 24, 25, 26, 27, 28, 29, 30, 31, 32, 33, 34, 35] (by decide +kernel) (by decide +kernel)
set_option maxRecDepth 20000 in
theorem gX5_drop_X5_isLetter : GoodIn wsX5_drop (wsV RX5 57 RX5 yX5_isLetter wsX5_isLetter) := goodIn_app (goodIn_of _ (by decide +kernel)) ggX5_drop_X5_isLetter
set_option maxRecDepth 20000 in
theorem ggX5_drop_X1_remove : GoodIn wsX5_drop wsX1_remove := goodIn_r _ [14, 15, 16, 17, 18, 19, 26, 27, 28, 29, 30, 31, 32, 33, 34, 35] (by decide +kernel) (by decide +kernel)
set_option maxRecDepth 20000 in
theorem gX5_drop_X1_remove : GoodIn wsX5_drop (wsV RX5 68 RX1 yX1_remove wsX1_remove) := goodIn_app (goodIn_of _ (by decide +kernel)) ggX5_drop_X1_remove
theorem dX5_drop_0 : decode cX5_drop 0 = .ok (.aload_n 0, 1) := by decide +kernel
theorem dX5_drop_1 : decode cX5_drop 1 = .ok (.iload_n 1, 1) := by decide +kernel
theorem dX5_drop_2 : decode cX5_drop 2 = .ok (.invokevirtual 57, 3) := by decide +kernel
theorem dX5_drop_5 : decode cX5_drop 5 = .ok (.ifCond .ne 5, 3) := by decide +kernel
theorem dX5_drop_8 : decode cX5_drop 8 = .ok (.iconst (-1), 1) := by decide +kernel
theorem dX5_drop_9 : decode cX5_drop 9 = .ok (.ireturn, 1) := by decide +kernel
theorem dX5_drop_10 : decode cX5_drop 10 = .ok (.aload_n 0, 1) := by decide +kernel
theorem dX5_drop_11 : decode cX5_drop 11 = .ok (.getfield 10, 3) := by decide +kernel
theorem dX5_drop_14 : decode cX5_drop 14 = .ok (.iload_n 1, 1) := by decide +kernel
theorem dX5_drop_15 : decode cX5_drop 15 = .ok (.invokevirtual 68, 3) := by decide +kernel
theorem dX5_drop_18 : decode cX5_drop 18 = .ok (.aload_n 0, 1) := by decide +kernel
theorem dX5_drop_19 : decode cX5_drop 19 = .ok (.getfield 10, 3) := by decide +kernel
theorem dX5_drop_22 : decode cX5_drop 22 = .ok (.getfield 49, 3) := by decide +kernel
theorem dX5_drop_25 : decode cX5_drop 25 = .ok (.ireturn, 1) := by decide +kernel
set_option maxRecDepth 20000 in
theorem ggX5_change_X5_isPoint : GoodIn wsX5_change wsX5_isPoint := goodIn_r _ [5, 6, 7, 4, 8] (by decide +kernel) (by decide +kernel)
set_option maxRecDepth 20000 in
theorem gX5_change_X5_isPoint : GoodIn wsX5_change (va_wsS RX5 41 yX5_isPoint wsX5_isPoint) := goodIn_app (goodIn_of _ (by decide +kernel)) ggX5_change_X5_isPoint
set_option maxRecDepth 20000 in
theorem ggX5_change_X1_swap : GoodIn wsX5_change wsX1_swap := goodIn_r _ [13, 14, 15, 16, 23, 24, 25, 26, 27, 28, 29, 30, 31, 32] (by decide +kernel) (by decide +kernel)
set_option maxRecDepth 20000 in
theorem gX5_change_X1_swap : GoodIn wsX5_change (wsV RX5 72 RX1 yX1_swap wsX1_swap) := goodIn_app (goodIn_of _ (by decide +kernel)) ggX5_change_X1_swap
theorem dX5_change_0 : decode cX5_change 0 = .ok (.iload_n 1, 1) := by decide +kernel
theorem dX5_change_1 : decode cX5_change 1 = .ok (.invokestatic 41, 3) := by decide +kernel
theorem dX5_change_4 : decode cX5_change 4 = .ok (.ifCond .eq 10, 3) := by decide +kernel
theorem dX5_change_7 : decode cX5_change 7 = .ok (.iload_n 2, 1) := by decide +kernel
theorem dX5_change_8 : decode cX5_change 8 = .ok (.invokestatic 41, 3) := by decide +kernel
theorem dX5_change_11 : decode cX5_change 11 = .ok (.ifCond .ne 5, 3) := by decide +kernel
theorem dX5_change_14 : decode cX5_change 14 = .ok (.iconst (-1), 1) := by decide +kernel
theorem dX5_change_15 : decode cX5_change 15 = .ok (.ireturn, 1) := by decide +kernel
theorem dX5_change_16 : decode cX5_change 16 = .ok (.aload_n 0, 1) := by decide +kernel
theorem dX5_change_17 : decode cX5_change 17 = .ok (.getfield 10, 3) := by decide +kernel
theorem dX5_change_20 : decode cX5_change 20 = .ok (.iload_n 1, 1) := by decide +kernel
theorem dX5_change_21 : decode cX5_change 21 = .ok (.iload_n 2, 1) := by decide +kernel
theorem dX5_change_22 : decode cX5_change 22 = .ok (.invokevirtual 72, 3) := by decide +kernel
theorem dX5_change_25 : decode cX5_change 25 = .ok (.aload_n 0, 1) := by decide +kernel
theorem dX5_change_26 : decode cX5_change 26 = .ok (.getfield 10, 3) := by decide +kernel
theorem dX5_change_29 : decode cX5_change 29 = .ok (.getfield 75, 3) := by decide +kernel
theorem dX5_change_32 : decode cX5_change 32 = .ok (.iload_n 1, 1) := by decide +kernel
theorem dX5_change_33 : decode cX5_change 33 = .ok (.iaload, 1) := by decide +kernel
theorem dX5_change_34 : decode cX5_change 34 = .ok (.ireturn, 1) := by decide +kernel
set_option maxRecDepth 20000 in
theorem ggX5_walk_X5_isWithin : GoodIn wsX5_walk wsX5_isWithin := goodIn_r _ [5] (by decide +kernel) (by decide +kernel)
set_option maxRecDepth 20000 in
theorem gX5_walk_X5_isWithin : GoodIn wsX5_walk (va_wsS RX5 45 yX5_isWithin wsX5_isWithin) := goodIn_app (goodIn_of _ (by decide +kernel)) ggX5_walk_X5_isWithin
theorem dX5_walk_0 : decode cX5_walk 0 = .ok (.iload_n 1, 1) := by decide +kernel
theorem dX5_walk_1 : decode cX5_walk 1 = .ok (.iconst 0, 1) := by decide +kernel
theorem dX5_walk_2 : decode cX5_walk 2 = .ok (.bipush 9, 2) := by decide +kernel
theorem dX5_walk_4 : decode cX5_walk 4 = .ok (.invokestatic 45, 3) := by decide +kernel
theorem dX5_walk_7 : decode cX5_walk 7 = .ok (.ifCond .ne 6, 3) := by decide +kernel
theorem dX5_walk_10 : decode cX5_walk 10 = .ok (.bipush (-2), 2) := by decide +kernel
theorem dX5_walk_12 : decode cX5_walk 12 = .ok (.ireturn, 1) := by decide +kernel
theorem dX5_walk_13 : decode cX5_walk 13 = .ok (.aload_n 0, 1) := by decide +kernel
theorem dX5_walk_14 : decode cX5_walk 14 = .ok (.getfield 10, 3) := by decide +kernel
theorem dX5_walk_17 : decode cX5_walk 17 = .ok (.getfield 79, 3) := by decide +kernel
theorem dX5_walk_20 : decode cX5_walk 20 = .ok (.iload_n 1, 1) := by decide +kernel
theorem dX5_walk_21 : decode cX5_walk 21 = .ok (.iaload, 1) := by decide +kernel
theorem dX5_walk_22 : decode cX5_walk 22 = .ok (.ireturn, 1) := by decide +kernel
set_option maxRecDepth 20000 in
theorem ggX5_stackers_X5_isWithin : GoodIn wsX5_stackers wsX5_isWithin := goodIn_r _ [5] (by decide +kernel) (by decide +kernel)
set_option maxRecDepth 20000 in
theorem gX5_stackers_X5_isWithin : GoodIn wsX5_stackers (va_wsS RX5 45 yX5_isWithin wsX5_isWithin) := goodIn_app (goodIn_of _ (by decide +kernel)) ggX5_stackers_X5_isWithin
set_option maxRecDepth 20000 in
theorem ggX5_stackers_X1_setMany : GoodIn wsX5_stackers wsX1_setMany := goodIn_r _ [10, 11, 12, 19, 20, 21, 22, 23, 24, 25, 26, 27, 28] (by decide +kernel) (by decide +kernel)
set_option maxRecDepth 20000 in
theorem gX5_stackers_X1_setMany : GoodIn wsX5_stackers (wsV RX5 85 RX1 yX1_setMany wsX1_setMany) := goodIn_app (goodIn_of _ (by decide +kernel)) ggX5_stackers_X1_setMany
theorem dX5_stackers_0 : decode cX5_stackers 0 = .ok (.iload_n 1, 1) := by decide +kernel
theorem dX5_stackers_1 : decode cX5_stackers 1 = .ok (.iconst 2, 1) := by decide +kernel
theorem dX5_stackers_2 : decode cX5_stackers 2 = .ok (.iconst 4, 1) := by decide +kernel
theorem dX5_stackers_3 : decode cX5_stackers 3 = .ok (.invokestatic 45, 3) := by decide +kernel
theorem dX5_stackers_6 : decode cX5_stackers 6 = .ok (.ifCond .ne 6, 3) := by decide +kernel
theorem dX5_stackers_9 : decode cX5_stackers 9 = .ok (.bipush (-2), 2) := by decide +kernel
theorem dX5_stackers_11 : decode cX5_stackers 11 = .ok (.ireturn, 1) := by decide +kernel
theorem dX5_stackers_12 : decode cX5_stackers 12 = .ok (.aload_n 0, 1) := by decide +kernel
theorem dX5_stackers_13 : decode cX5_stackers 13 = .ok (.getfield 10, 3) := by decide +kernel
theorem dX5_stackers_16 : decode cX5_stackers 16 = .ok (.getfield 82, 3) := by decide +kernel
theorem dX5_stackers_19 : decode cX5_stackers 19 = .ok (.istore_n 2, 1) := by decide +kernel
theorem dX5_stackers_20 : decode cX5_stackers 20 = .ok (.aload_n 0, 1) := by decide +kernel
theorem dX5_stackers_21 : decode cX5_stackers 21 = .ok (.getfield 10, 3) := by decide +kernel
theorem dX5_stackers_24 : decode cX5_stackers 24 = .ok (.iload_n 1, 1) := by decide +kernel
theorem dX5_stackers_25 : decode cX5_stackers 25 = .ok (.invokevirtual 85, 3) := by decide +kernel
theorem dX5_stackers_28 : decode cX5_stackers 28 = .ok (.iload_n 2, 1) := by decide +kernel
theorem dX5_stackers_29 : decode cX5_stackers 29 = .ok (.ireturn, 1) := by decide +kernel
set_option maxRecDepth 20000 in
theorem ggX5_room_X5_isStacker : GoodIn wsX5_room wsX5_isStacker := goodIn_r _ [6, 1, 7, 8, 5, 9, 17, 18, 19, 20, 21, 22, 23, 24, 25, 26, 27, 28, 29, 30, 31, 32] (by decide +kernel) (by decide +kernel)
set_option maxRecDepth 20000 in
theorem gX5_room_X5_isStacker : GoodIn wsX5_room (wsV RX5 88 RX5 yX5_isStacker wsX5_isStacker) := goodIn_app (goodIn_of _ (by decide +kernel)) ggX5_room_X5_isStacker
set_option maxRecDepth 20000 in
theorem ggX5_room_X5_isWithin : GoodIn wsX5_room wsX5_isWithin := goodIn_r _ [9] (by decide +kernel) (by decide +kernel)
set_option maxRecDepth 20000 in
theorem gX5_room_X5_isWithin : GoodIn wsX5_room (va_wsS RX5 45 yX5_isWithin wsX5_isWithin) := goodIn_app (goodIn_of _ (by decide +kernel)) ggX5_room_X5_isWithin
set_option maxRecDepth 20000 in
theorem ggX5_room_X1_setRoom : GoodIn wsX5_room wsX1_setRoom := goodIn_r _ [14, 15, 16, 23, 24, 25, 26, 27, 28, 29, 30, 31, 32] (by decide +kernel) (by decide +kernel)
set_option maxRecDepth 20000 in
theorem gX5_room_X1_setRoom : GoodIn wsX5_room (wsV RX5 94 RX1 yX1_setRoom wsX1_setRoom) := goodIn_app (goodIn_of _ (by decide +kernel)) ggX5_room_X1_setRoom
theorem dX5_room_0 : decode cX5_room 0 = .ok (.aload_n 0, 1) := by decide +kernel
theorem dX5_room_1 : decode cX5_room 1 = .ok (.iload_n 1, 1) := by decide +kernel
theorem dX5_room_2 : decode cX5_room 2 = .ok (.invokevirtual 88, 3) := by decide +kernel
theorem dX5_room_5 : decode cX5_room 5 = .ok (.ifCond .ne 5, 3) := by decide +kernel
theorem dX5_room_8 : decode cX5_room 8 = .ok (.iconst (-1), 1) := by decide +kernel
theorem dX5_room_9 : decode cX5_room 9 = .ok (.ireturn, 1) := by decide +kernel
theorem dX5_room_10 : decode cX5_room 10 = .ok (.iload_n 2, 1) := by decide +kernel
theorem dX5_room_11 : decode cX5_room 11 = .ok (.iconst 1, 1) := by decide +kernel
theorem dX5_room_12 : decode cX5_room 12 = .ok (.bipush 99, 2) := by decide +kernel
theorem dX5_room_14 : decode cX5_room 14 = .ok (.invokestatic 45, 3) := by decide +kernel
theorem dX5_room_17 : decode cX5_room 17 = .ok (.ifCond .ne 6, 3) := by decide +kernel
theorem dX5_room_20 : decode cX5_room 20 = .ok (.bipush (-2), 2) := by decide +kernel
theorem dX5_room_22 : decode cX5_room 22 = .ok (.ireturn, 1) := by decide +kernel
theorem dX5_room_23 : decode cX5_room 23 = .ok (.aload_n 0, 1) := by decide +kernel
theorem dX5_room_24 : decode cX5_room 24 = .ok (.getfield 10, 3) := by decide +kernel
theorem dX5_room_27 : decode cX5_room 27 = .ok (.getfield 91, 3) := by decide +kernel
theorem dX5_room_30 : decode cX5_room 30 = .ok (.iload_n 1, 1) := by decide +kernel
theorem dX5_room_31 : decode cX5_room 31 = .ok (.iaload, 1) := by decide +kernel
theorem dX5_room_32 : decode cX5_room 32 = .ok (.istore_n 3, 1) := by decide +kernel
theorem dX5_room_33 : decode cX5_room 33 = .ok (.aload_n 0, 1) := by decide +kernel
theorem dX5_room_34 : decode cX5_room 34 = .ok (.getfield 10, 3) := by decide +kernel
theorem dX5_room_37 : decode cX5_room 37 = .ok (.iload_n 1, 1) := by decide +kernel
theorem dX5_room_38 : decode cX5_room 38 = .ok (.iload_n 2, 1) := by decide +kernel
theorem dX5_room_39 : decode cX5_room 39 = .ok (.invokevirtual 94, 3) := by decide +kernel
theorem dX5_room_42 : decode cX5_room 42 = .ok (.iload_n 3, 1) := by decide +kernel
theorem dX5_room_43 : decode cX5_room 43 = .ok (.ireturn, 1) := by decide +kernel
set_option maxRecDepth 20000 in
theorem ggX5_code_X5_isPoint : GoodIn wsX5_code wsX5_isPoint := goodIn_r _ [5, 6, 7, 4, 8] (by decide +kernel) (by decide +kernel)
set_option maxRecDepth 20000 in
theorem gX5_code_X5_isPoint : GoodIn wsX5_code (va_wsS RX5 41 yX5_isPoint wsX5_isPoint) := goodIn_app (goodIn_of _ (by decide +kernel)) ggX5_code_X5_isPoint
set_option maxRecDepth 20000 in
theorem ggX5_code_X5_isWithin : GoodIn wsX5_code wsX5_isWithin := goodIn_r _ [8] (by decide +kernel) (by decide +kernel)
set_option maxRecDepth 20000 in
theorem gX5_code_X5_isWithin : GoodIn wsX5_code (va_wsS RX5 45 yX5_isWithin wsX5_isWithin) := goodIn_app (goodIn_of _ (by decide +kernel)) ggX5_code_X5_isWithin
theorem dX5_code_0 : decode cX5_code 0 = .ok (.iload_n 1, 1) := by decide +kernel
theorem dX5_code_1 : decode cX5_code 1 = .ok (.invokestatic 41, 3) := by decide +kernel
theorem dX5_code_4 : decode cX5_code 4 = .ok (.ifCond .ne 5, 3) := by decide +kernel
theorem dX5_code_7 : decode cX5_code 7 = .ok (.iconst (-1), 1) := by decide +kernel
theorem dX5_code_8 : decode cX5_code 8 = .ok (.ireturn, 1) := by decide +kernel
theorem dX5_code_9 : decode cX5_code 9 = .ok (.iload_n 2, 1) := by decide +kernel
theorem dX5_code_10 : decode cX5_code 10 = .ok (.iconst 0, 1) := by decide +kernel
theorem dX5_code_11 : decode cX5_code 11 = .ok (.bipush 63, 2) := by decide +kernel
theorem dX5_code_13 : decode cX5_code 13 = .ok (.invokestatic 45, 3) := by decide +kernel
theorem dX5_code_16 : decode cX5_code 16 = .ok (.ifCond .ne 6, 3) := by decide +kernel
theorem dX5_code_19 : decode cX5_code 19 = .ok (.bipush (-2), 2) := by decide +kernel
theorem dX5_code_21 : decode cX5_code 21 = .ok (.ireturn, 1) := by decide +kernel
theorem dX5_code_22 : decode cX5_code 22 = .ok (.aload_n 0, 1) := by decide +kernel
theorem dX5_code_23 : decode cX5_code 23 = .ok (.getfield 10, 3) := by decide +kernel
theorem dX5_code_26 : decode cX5_code 26 = .ok (.getfield 97, 3) := by decide +kernel
theorem dX5_code_29 : decode cX5_code 29 = .ok (.iload_n 1, 1) := by decide +kernel
theorem dX5_code_30 : decode cX5_code 30 = .ok (.iaload, 1) := by decide +kernel
theorem dX5_code_31 : decode cX5_code 31 = .ok (.istore_n 3, 1) := by decide +kernel
theorem dX5_code_32 : decode cX5_code 32 = .ok (.aload_n 0, 1) := by decide +kernel
theorem dX5_code_33 : decode cX5_code 33 = .ok (.getfield 10, 3) := by decide +kernel
theorem dX5_code_36 : decode cX5_code 36 = .ok (.getfield 97, 3) := by decide +kernel
theorem dX5_code_39 : decode cX5_code 39 = .ok (.iload_n 1, 1) := by decide +kernel
theorem dX5_code_40 : decode cX5_code 40 = .ok (.iload_n 2, 1) := by decide +kernel
theorem dX5_code_41 : decode cX5_code 41 = .ok (.iastore, 1) := by decide +kernel
theorem dX5_code_42 : decode cX5_code 42 = .ok (.iload_n 3, 1) := by decide +kernel
theorem dX5_code_43 : decode cX5_code 43 = .ok (.ireturn, 1) := by decide +kernel
set_option maxRecDepth 20000 in
theorem ggX5_dense_X1_codeDensely : GoodIn wsX5_dense wsX1_codeDensely := goodIn_r _ [6, 7, 8, 9, 10, 11, 5, 12, 13, 14, 21, 22, 23, 24, 25, 26, 27, 28, 29, 30] (by decide +kernel) (by decide +kernel)
set_option maxRecDepth 20000 in
theorem gX5_dense_X1_codeDensely : GoodIn wsX5_dense (wsV RX5 100 RX1 yX1_codeDensely wsX1_codeDensely) := goodIn_app (goodIn_of _ (by decide +kernel)) ggX5_dense_X1_codeDensely
theorem dX5_dense_0 : decode cX5_dense 0 = .ok (.aload_n 0, 1) := by decide +kernel
theorem dX5_dense_1 : decode cX5_dense 1 = .ok (.getfield 10, 3) := by decide +kernel
theorem dX5_dense_4 : decode cX5_dense 4 = .ok (.invokevirtual 100, 3) := by decide +kernel
theorem dX5_dense_7 : decode cX5_dense 7 = .ok (.ireturn, 1) := by decide +kernel
set_option maxRecDepth 20000 in
theorem ggX5_of_X5_isLetter : GoodIn wsX5_of wsX5_isLetter := goodIn_r _ [6, 1, 7, 8, 5, 9, 10, 11, 12, 13, 14, 15, 16, 17, 18, 19, 20, 21, 22, 23, 24, 25] (by decide +kernel) (by decide +kernel)
set_option maxRecDepth 20000 in
theorem gX5_of_X5_isLetter : GoodIn wsX5_of (wsV RX5 57 RX5 yX5_isLetter wsX5_isLetter) := goodIn_app (goodIn_of _ (by decide +kernel)) ggX5_of_X5_isLetter
theorem dX5_of_0 : decode cX5_of 0 = .ok (.aload_n 0, 1) := by decide +kernel
theorem dX5_of_1 : decode cX5_of 1 = .ok (.iload_n 1, 1) := by decide +kernel
theorem dX5_of_2 : decode cX5_of 2 = .ok (.invokevirtual 57, 3) := by decide +kernel
theorem dX5_of_5 : decode cX5_of 5 = .ok (.ifCond .ne 5, 3) := by decide +kernel
theorem dX5_of_8 : decode cX5_of 8 = .ok (.iconst (-1), 1) := by decide +kernel
theorem dX5_of_9 : decode cX5_of 9 = .ok (.ireturn, 1) := by decide +kernel
theorem dX5_of_10 : decode cX5_of 10 = .ok (.iload_n 2, 1) := by decide +kernel
theorem dX5_of_11 : decode cX5_of 11 = .ok (.tableswitch 55 0 2 #[25, 35, 45], 25) := by decide +kernel
theorem dX5_of_36 : decode cX5_of 36 = .ok (.aload_n 0, 1) := by decide +kernel
theorem dX5_of_37 : decode cX5_of 37 = .ok (.getfield 10, 3) := by decide +kernel
theorem dX5_of_40 : decode cX5_of 40 = .ok (.getfield 103, 3) := by decide +kernel
theorem dX5_of_43 : decode cX5_of 43 = .ok (.iload_n 1, 1) := by decide +kernel
theorem dX5_of_44 : decode cX5_of 44 = .ok (.iaload, 1) := by decide +kernel
theorem dX5_of_45 : decode cX5_of 45 = .ok (.ireturn, 1) := by decide +kernel
theorem dX5_of_46 : decode cX5_of 46 = .ok (.aload_n 0, 1) := by decide +kernel
theorem dX5_of_47 : decode cX5_of 47 = .ok (.getfield 10, 3) := by decide +kernel
theorem dX5_of_50 : decode cX5_of 50 = .ok (.getfield 106, 3) := by decide +kernel
theorem dX5_of_53 : decode cX5_of 53 = .ok (.iload_n 1, 1) := by decide +kernel
theorem dX5_of_54 : decode cX5_of 54 = .ok (.iaload, 1) := by decide +kernel
theorem dX5_of_55 : decode cX5_of 55 = .ok (.ireturn, 1) := by decide +kernel
theorem dX5_of_56 : decode cX5_of 56 = .ok (.aload_n 0, 1) := by decide +kernel
theorem dX5_of_57 : decode cX5_of 57 = .ok (.getfield 10, 3) := by decide +kernel
theorem dX5_of_60 : decode cX5_of 60 = .ok (.getfield 109, 3) := by decide +kernel
theorem dX5_of_63 : decode cX5_of 63 = .ok (.iload_n 1, 1) := by decide +kernel
theorem dX5_of_64 : decode cX5_of 64 = .ok (.iaload, 1) := by decide +kernel
theorem dX5_of_65 : decode cX5_of 65 = .ok (.ireturn, 1) := by decide +kernel
theorem dX5_of_66 : decode cX5_of 66 = .ok (.bipush (-2), 2) := by decide +kernel
theorem dX5_of_68 : decode cX5_of 68 = .ok (.ireturn, 1) := by decide +kernel
set_option maxRecDepth 20000 in
theorem ggX5_run_X5_isPasses : GoodIn wsX5_run wsX5_isPasses := goodIn_r _ [6, 7, 8, 5, 9] (by decide +kernel) (by decide +kernel)
set_option maxRecDepth 20000 in
theorem gX5_run_X5_isPasses : GoodIn wsX5_run (va_wsS RX5 112 yX5_isPasses wsX5_isPasses) := goodIn_app (goodIn_of _ (by decide +kernel)) ggX5_run_X5_isPasses
set_option maxRecDepth 20000 in
theorem ggX5_run_X5_isWithin : GoodIn wsX5_run wsX5_isWithin := goodIn_r _ [9] (by decide +kernel) (by decide +kernel)
set_option maxRecDepth 20000 in
theorem gX5_run_X5_isWithin : GoodIn wsX5_run (va_wsS RX5 45 yX5_isWithin wsX5_isWithin) := goodIn_app (goodIn_of _ (by decide +kernel)) ggX5_run_X5_isWithin
set_option maxRecDepth 20000 in
theorem ggX5_run_X2_perform : GoodIn wsX5_run wsX2_perform := goodIn_r _ [14, 15, 16, 17, 13, 18, 19, 20, 21, 22, 23, 24, 25, 26, 27, 28, 29, 30, 31, 5, 32, 33, 34, 35, 36, 37, 38, 39, 40, 41, 42, 43, 44, 45, 46, 47, 48, 49, 50, 51, 66, 67, 68, 69, 70, 71, 72, 73, 74, 75, 76, 77, 78, 79, 80, 81, 82] (by decide +kernel) (by decide +kernel)
set_option maxRecDepth 20000 in
theorem gX5_run_X2_perform : GoodIn wsX5_run (wsV RX5 115 RX2 yX2_perform wsX2_perform) := goodIn_app (goodIn_of _ (by decide +kernel)) ggX5_run_X2_perform
set_option maxRecDepth 20000 in
theorem ggX5_run_X2_countWrong : GoodIn wsX5_run wsX2_countWrong := goodIn_r _ [55, 19, 25, 76, 77, 78, 79, 80, 81, 82, 66, 67, 68, 69, 70, 71, 72, 73, 74, 75] (by decide +kernel) (by decide +kernel)
set_option maxRecDepth 20000 in
theorem gX5_run_X2_countWrong : GoodIn wsX5_run (wsV RX5 122 RX2 yX2_countWrong wsX2_countWrong) := goodIn_app (goodIn_of _ (by decide +kernel)) ggX5_run_X2_countWrong
set_option maxRecDepth 20000 in
theorem ggX5_run_X2_countSpilledAt : GoodIn wsX5_run wsX2_countSpilledAt := goodIn_r _ [59, 24, 66, 67, 68, 69, 70, 71, 72, 73, 74, 75, 76, 77, 78, 79, 80, 81, 82] (by decide +kernel) (by decide +kernel)
set_option maxRecDepth 20000 in
theorem gX5_run_X2_countSpilledAt : GoodIn wsX5_run (wsV RX5 126 RX2 yX2_countSpilledAt wsX2_countSpilledAt) := goodIn_app (goodIn_of _ (by decide +kernel)) ggX5_run_X2_countSpilledAt
theorem dX5_run_0 : decode cX5_run 0 = .ok (.iload_n 1, 1) := by decide +kernel
theorem dX5_run_1 : decode cX5_run 1 = .ok (.invokestatic 112, 3) := by decide +kernel
theorem dX5_run_4 : decode cX5_run 4 = .ok (.ifCond .eq 12, 3) := by decide +kernel
theorem dX5_run_7 : decode cX5_run 7 = .ok (.iload_n 2, 1) := by decide +kernel
theorem dX5_run_8 : decode cX5_run 8 = .ok (.iconst 0, 1) := by decide +kernel
theorem dX5_run_9 : decode cX5_run 9 = .ok (.iconst 3, 1) := by decide +kernel
theorem dX5_run_10 : decode cX5_run 10 = .ok (.invokestatic 45, 3) := by decide +kernel
theorem dX5_run_13 : decode cX5_run 13 = .ok (.ifCond .ne 6, 3) := by decide +kernel
theorem dX5_run_16 : decode cX5_run 16 = .ok (.bipush (-2), 2) := by decide +kernel
theorem dX5_run_18 : decode cX5_run 18 = .ok (.ireturn, 1) := by decide +kernel
theorem dX5_run_19 : decode cX5_run 19 = .ok (.aload_n 0, 1) := by decide +kernel
theorem dX5_run_20 : decode cX5_run 20 = .ok (.getfield 23, 3) := by decide +kernel
theorem dX5_run_23 : decode cX5_run 23 = .ok (.aload_n 0, 1) := by decide +kernel
theorem dX5_run_24 : decode cX5_run 24 = .ok (.getfield 10, 3) := by decide +kernel
theorem dX5_run_27 : decode cX5_run 27 = .ok (.aload_n 0, 1) := by decide +kernel
theorem dX5_run_28 : decode cX5_run 28 = .ok (.getfield 10, 3) := by decide +kernel
theorem dX5_run_31 : decode cX5_run 31 = .ok (.getfield 97, 3) := by decide +kernel
theorem dX5_run_34 : decode cX5_run 34 = .ok (.iload_n 1, 1) := by decide +kernel
theorem dX5_run_35 : decode cX5_run 35 = .ok (.invokevirtual 115, 3) := by decide +kernel
theorem dX5_run_38 : decode cX5_run 38 = .ok (.iload_n 2, 1) := by decide +kernel
theorem dX5_run_39 : decode cX5_run 39 = .ok (.tableswitch 61 0 2 #[25, 33, 49], 25) := by decide +kernel
theorem dX5_run_64 : decode cX5_run 64 = .ok (.aload_n 0, 1) := by decide +kernel
theorem dX5_run_65 : decode cX5_run 65 = .ok (.getfield 23, 3) := by decide +kernel
theorem dX5_run_68 : decode cX5_run 68 = .ok (.getfield 119, 3) := by decide +kernel
theorem dX5_run_71 : decode cX5_run 71 = .ok (.ireturn, 1) := by decide +kernel
theorem dX5_run_72 : decode cX5_run 72 = .ok (.aload_n 0, 1) := by decide +kernel
theorem dX5_run_73 : decode cX5_run 73 = .ok (.getfield 10, 3) := by decide +kernel
theorem dX5_run_76 : decode cX5_run 76 = .ok (.getfield 49, 3) := by decide +kernel
theorem dX5_run_79 : decode cX5_run 79 = .ok (.aload_n 0, 1) := by decide +kernel
theorem dX5_run_80 : decode cX5_run 80 = .ok (.getfield 23, 3) := by decide +kernel
theorem dX5_run_83 : decode cX5_run 83 = .ok (.getfield 119, 3) := by decide +kernel
theorem dX5_run_86 : decode cX5_run 86 = .ok (.isub, 1) := by decide +kernel
theorem dX5_run_87 : decode cX5_run 87 = .ok (.ireturn, 1) := by decide +kernel
theorem dX5_run_88 : decode cX5_run 88 = .ok (.aload_n 0, 1) := by decide +kernel
theorem dX5_run_89 : decode cX5_run 89 = .ok (.getfield 23, 3) := by decide +kernel
theorem dX5_run_92 : decode cX5_run 92 = .ok (.aload_n 0, 1) := by decide +kernel
theorem dX5_run_93 : decode cX5_run 93 = .ok (.getfield 10, 3) := by decide +kernel
theorem dX5_run_96 : decode cX5_run 96 = .ok (.invokevirtual 122, 3) := by decide +kernel
theorem dX5_run_99 : decode cX5_run 99 = .ok (.ireturn, 1) := by decide +kernel
theorem dX5_run_100 : decode cX5_run 100 = .ok (.aload_n 0, 1) := by decide +kernel
theorem dX5_run_101 : decode cX5_run 101 = .ok (.getfield 23, 3) := by decide +kernel
theorem dX5_run_104 : decode cX5_run 104 = .ok (.aload_n 0, 1) := by decide +kernel
theorem dX5_run_105 : decode cX5_run 105 = .ok (.getfield 10, 3) := by decide +kernel
theorem dX5_run_108 : decode cX5_run 108 = .ok (.iload_n 1, 1) := by decide +kernel
theorem dX5_run_109 : decode cX5_run 109 = .ok (.invokevirtual 126, 3) := by decide +kernel
theorem dX5_run_112 : decode cX5_run 112 = .ok (.ireturn, 1) := by decide +kernel
set_option maxRecDepth 20000 in
theorem ggX5_out_X5_isPasses : GoodIn wsX5_out wsX5_isPasses := goodIn_r _ [6, 7, 8, 5, 9] (by decide +kernel) (by decide +kernel)
set_option maxRecDepth 20000 in
theorem gX5_out_X5_isPasses : GoodIn wsX5_out (va_wsS RX5 112 yX5_isPasses wsX5_isPasses) := goodIn_app (goodIn_of _ (by decide +kernel)) ggX5_out_X5_isPasses
set_option maxRecDepth 20000 in
theorem ggX5_out_X2_perform : GoodIn wsX5_out wsX2_perform := goodIn_r _ [14, 15, 16, 17, 13, 18, 19, 20, 21, 22, 23, 24, 25, 26, 27, 28, 29, 30, 31, 5, 32, 33, 34, 35, 36, 37, 38, 39, 40, 41, 42, 43, 44, 45, 46, 47, 48, 49, 50, 51, 58, 59, 60, 61, 62, 63, 64, 65, 66, 67, 68, 69, 70, 71, 72, 73, 74] (by decide +kernel) (by decide +kernel)
set_option maxRecDepth 20000 in
theorem gX5_out_X2_perform : GoodIn wsX5_out (wsV RX5 115 RX2 yX2_perform wsX2_perform) := goodIn_app (goodIn_of _ (by decide +kernel)) ggX5_out_X2_perform
set_option maxRecDepth 20000 in
theorem ggX5_out_X5_isWithin : GoodIn wsX5_out wsX5_isWithin := goodIn_r _ [9] (by decide +kernel) (by decide +kernel)
set_option maxRecDepth 20000 in
theorem gX5_out_X5_isWithin : GoodIn wsX5_out (va_wsS RX5 45 yX5_isWithin wsX5_isWithin) := goodIn_app (goodIn_of _ (by decide +kernel)) ggX5_out_X5_isWithin
theorem dX5_out_0 : decode cX5_out 0 = .ok (.iload_n 1, 1) := by decide +kernel
theorem dX5_out_1 : decode cX5_out 1 = .ok (.invokestatic 112, 3) := by decide +kernel
theorem dX5_out_4 : decode cX5_out 4 = .ok (.ifCond .ne 6, 3) := by decide +kernel
theorem dX5_out_7 : decode cX5_out 7 = .ok (.bipush (-2), 2) := by decide +kernel
theorem dX5_out_9 : decode cX5_out 9 = .ok (.ireturn, 1) := by decide +kernel
theorem dX5_out_10 : decode cX5_out 10 = .ok (.aload_n 0, 1) := by decide +kernel
theorem dX5_out_11 : decode cX5_out 11 = .ok (.getfield 23, 3) := by decide +kernel
theorem dX5_out_14 : decode cX5_out 14 = .ok (.aload_n 0, 1) := by decide +kernel
theorem dX5_out_15 : decode cX5_out 15 = .ok (.getfield 10, 3) := by decide +kernel
theorem dX5_out_18 : decode cX5_out 18 = .ok (.aload_n 0, 1) := by decide +kernel
theorem dX5_out_19 : decode cX5_out 19 = .ok (.getfield 10, 3) := by decide +kernel
theorem dX5_out_22 : decode cX5_out 22 = .ok (.getfield 97, 3) := by decide +kernel
theorem dX5_out_25 : decode cX5_out 25 = .ok (.iload_n 1, 1) := by decide +kernel
theorem dX5_out_26 : decode cX5_out 26 = .ok (.invokevirtual 115, 3) := by decide +kernel
theorem dX5_out_29 : decode cX5_out 29 = .ok (.iload_n 2, 1) := by decide +kernel
theorem dX5_out_30 : decode cX5_out 30 = .ok (.iconst 0, 1) := by decide +kernel
theorem dX5_out_31 : decode cX5_out 31 = .ok (.aload_n 0, 1) := by decide +kernel
theorem dX5_out_32 : decode cX5_out 32 = .ok (.getfield 23, 3) := by decide +kernel
theorem dX5_out_35 : decode cX5_out 35 = .ok (.getfield 119, 3) := by decide +kernel
theorem dX5_out_38 : decode cX5_out 38 = .ok (.iconst 1, 1) := by decide +kernel
theorem dX5_out_39 : decode cX5_out 39 = .ok (.isub, 1) := by decide +kernel
theorem dX5_out_40 : decode cX5_out 40 = .ok (.invokestatic 45, 3) := by decide +kernel
theorem dX5_out_43 : decode cX5_out 43 = .ok (.ifCond .eq 15, 3) := by decide +kernel
theorem dX5_out_46 : decode cX5_out 46 = .ok (.aload_n 0, 1) := by decide +kernel
theorem dX5_out_47 : decode cX5_out 47 = .ok (.getfield 23, 3) := by decide +kernel
theorem dX5_out_50 : decode cX5_out 50 = .ok (.getfield 130, 3) := by decide +kernel
theorem dX5_out_53 : decode cX5_out 53 = .ok (.iload_n 2, 1) := by decide +kernel
theorem dX5_out_54 : decode cX5_out 54 = .ok (.iaload, 1) := by decide +kernel
theorem dX5_out_55 : decode cX5_out 55 = .ok (.goto 5, 3) := by decide +kernel
theorem dX5_out_58 : decode cX5_out 58 = .ok (.bipush (-6), 2) := by decide +kernel
theorem dX5_out_60 : decode cX5_out 60 = .ok (.ireturn, 1) := by decide +kernel
set_option maxRecDepth 20000 in
theorem ggX5_spilled_X5_isPasses : GoodIn wsX5_spilled wsX5_isPasses := goodIn_r _ [6, 7, 8, 5, 9] (by decide +kernel) (by decide +kernel)
set_option maxRecDepth 20000 in
theorem gX5_spilled_X5_isPasses : GoodIn wsX5_spilled (va_wsS RX5 112 yX5_isPasses wsX5_isPasses) := goodIn_app (goodIn_of _ (by decide +kernel)) ggX5_spilled_X5_isPasses
set_option maxRecDepth 20000 in
theorem ggX5_spilled_X5_isLetter : GoodIn wsX5_spilled wsX5_isLetter := goodIn_r _ [13, 2, 7, 8, 5, 9, 56, 57, 58, 59, 60, 61, 62, 63, 64, 65, 66, 67, 68, 69, 70, 71] (by decide +kernel) (by decide +kernel)
set_option maxRecDepth 20000 in
theorem gX5_spilled_X5_isLetter : GoodIn wsX5_spilled (wsV RX5 57 RX5 yX5_isLetter wsX5_isLetter) := goodIn_app (goodIn_of _ (by decide +kernel)) ggX5_spilled_X5_isLetter
set_option maxRecDepth 20000 in
theorem ggX5_spilled_X2_perform : GoodIn wsX5_spilled wsX2_perform := goodIn_r _ [18, 19, 20, 21, 17, 22, 23, 24, 25, 26, 27, 28, 29, 30, 31, 32, 33, 34, 35, 5, 36, 37, 38, 39, 40, 41, 42, 43, 44, 45, 46, 47, 48, 49, 50, 51, 52, 53, 54, 55, 62, 63, 64, 65, 66, 67, 68, 69, 70, 71, 72, 73, 74, 75, 76, 77, 78] (by decide +kernel) (by decide +kernel)
set_option maxRecDepth 20000 in
theorem gX5_spilled_X2_perform : GoodIn wsX5_spilled (wsV RX5 115 RX2 yX2_perform wsX2_perform) := goodIn_app (goodIn_of _ (by decide +kernel)) ggX5_spilled_X2_perform
theorem dX5_spilled_0 : decode cX5_spilled 0 = .ok (.iload_n 1, 1) := by decide +kernel
theorem dX5_spilled_1 : decode cX5_spilled 1 = .ok (.invokestatic 112, 3) := by decide +kernel
theorem dX5_spilled_4 : decode cX5_spilled 4 = .ok (.ifCond .ne 6, 3) := by decide +kernel
theorem dX5_spilled_7 : decode cX5_spilled 7 = .ok (.bipush (-2), 2) := by decide +kernel
theorem dX5_spilled_9 : decode cX5_spilled 9 = .ok (.ireturn, 1) := by decide +kernel
theorem dX5_spilled_10 : decode cX5_spilled 10 = .ok (.aload_n 0, 1) := by decide +kernel
theorem dX5_spilled_11 : decode cX5_spilled 11 = .ok (.iload_n 2, 1) := by decide +kernel
theorem dX5_spilled_12 : decode cX5_spilled 12 = .ok (.invokevirtual 57, 3) := by decide +kernel
theorem dX5_spilled_15 : decode cX5_spilled 15 = .ok (.ifCond .ne 5, 3) := by decide +kernel
theorem dX5_spilled_18 : decode cX5_spilled 18 = .ok (.iconst (-1), 1) := by decide +kernel
theorem dX5_spilled_19 : decode cX5_spilled 19 = .ok (.ireturn, 1) := by decide +kernel
theorem dX5_spilled_20 : decode cX5_spilled 20 = .ok (.aload_n 0, 1) := by decide +kernel
theorem dX5_spilled_21 : decode cX5_spilled 21 = .ok (.getfield 23, 3) := by decide +kernel
theorem dX5_spilled_24 : decode cX5_spilled 24 = .ok (.aload_n 0, 1) := by decide +kernel
theorem dX5_spilled_25 : decode cX5_spilled 25 = .ok (.getfield 10, 3) := by decide +kernel
theorem dX5_spilled_28 : decode cX5_spilled 28 = .ok (.aload_n 0, 1) := by decide +kernel
theorem dX5_spilled_29 : decode cX5_spilled 29 = .ok (.getfield 10, 3) := by decide +kernel
theorem dX5_spilled_32 : decode cX5_spilled 32 = .ok (.getfield 97, 3) := by decide +kernel
theorem dX5_spilled_35 : decode cX5_spilled 35 = .ok (.iload_n 1, 1) := by decide +kernel
theorem dX5_spilled_36 : decode cX5_spilled 36 = .ok (.invokevirtual 115, 3) := by decide +kernel
theorem dX5_spilled_39 : decode cX5_spilled 39 = .ok (.aload_n 0, 1) := by decide +kernel
theorem dX5_spilled_40 : decode cX5_spilled 40 = .ok (.getfield 23, 3) := by decide +kernel
theorem dX5_spilled_43 : decode cX5_spilled 43 = .ok (.getfield 131, 3) := by decide +kernel
theorem dX5_spilled_46 : decode cX5_spilled 46 = .ok (.iload_n 2, 1) := by decide +kernel
theorem dX5_spilled_47 : decode cX5_spilled 47 = .ok (.iaload, 1) := by decide +kernel
theorem dX5_spilled_48 : decode cX5_spilled 48 = .ok (.ireturn, 1) := by decide +kernel
set_option maxRecDepth 20000 in
theorem ggX5_load_X5_isPasses : GoodIn wsX5_load wsX5_isPasses := goodIn_r _ [6, 7, 8, 5, 9] (by decide +kernel) (by decide +kernel)
set_option maxRecDepth 20000 in
theorem gX5_load_X5_isPasses : GoodIn wsX5_load (va_wsS RX5 112 yX5_isPasses wsX5_isPasses) := goodIn_app (goodIn_of _ (by decide +kernel)) ggX5_load_X5_isPasses
set_option maxRecDepth 20000 in
theorem ggX5_load_X5_isStacker : GoodIn wsX5_load wsX5_isStacker := goodIn_r _ [13, 2, 7, 8, 5, 9, 56, 57, 58, 59, 60, 61, 62, 63, 64, 65, 66, 67, 68, 69, 70, 71] (by decide +kernel) (by decide +kernel)
set_option maxRecDepth 20000 in
theorem gX5_load_X5_isStacker : GoodIn wsX5_load (wsV RX5 88 RX5 yX5_isStacker wsX5_isStacker) := goodIn_app (goodIn_of _ (by decide +kernel)) ggX5_load_X5_isStacker
set_option maxRecDepth 20000 in
theorem ggX5_load_X2_perform : GoodIn wsX5_load wsX2_perform := goodIn_r _ [18, 19, 20, 21, 17, 22, 23, 24, 25, 26, 27, 28, 29, 30, 31, 32, 33, 34, 35, 5, 36, 37, 38, 39, 40, 41, 42, 43, 44, 45, 46, 47, 48, 49, 50, 51, 52, 53, 54, 55, 62, 63, 64, 65, 66, 67, 68, 69, 70, 71, 72, 73, 74, 75, 76, 77, 78] (by decide +kernel) (by decide +kernel)
set_option maxRecDepth 20000 in
theorem gX5_load_X2_perform : GoodIn wsX5_load (wsV RX5 115 RX2 yX2_perform wsX2_perform) := goodIn_app (goodIn_of _ (by decide +kernel)) ggX5_load_X2_perform
theorem dX5_load_0 : decode cX5_load 0 = .ok (.iload_n 1, 1) := by decide +kernel
theorem dX5_load_1 : decode cX5_load 1 = .ok (.invokestatic 112, 3) := by decide +kernel
theorem dX5_load_4 : decode cX5_load 4 = .ok (.ifCond .ne 6, 3) := by decide +kernel
theorem dX5_load_7 : decode cX5_load 7 = .ok (.bipush (-2), 2) := by decide +kernel
theorem dX5_load_9 : decode cX5_load 9 = .ok (.ireturn, 1) := by decide +kernel
theorem dX5_load_10 : decode cX5_load 10 = .ok (.aload_n 0, 1) := by decide +kernel
theorem dX5_load_11 : decode cX5_load 11 = .ok (.iload_n 2, 1) := by decide +kernel
theorem dX5_load_12 : decode cX5_load 12 = .ok (.invokevirtual 88, 3) := by decide +kernel
theorem dX5_load_15 : decode cX5_load 15 = .ok (.ifCond .ne 5, 3) := by decide +kernel
theorem dX5_load_18 : decode cX5_load 18 = .ok (.iconst (-1), 1) := by decide +kernel
theorem dX5_load_19 : decode cX5_load 19 = .ok (.ireturn, 1) := by decide +kernel
theorem dX5_load_20 : decode cX5_load 20 = .ok (.aload_n 0, 1) := by decide +kernel
theorem dX5_load_21 : decode cX5_load 21 = .ok (.getfield 23, 3) := by decide +kernel
theorem dX5_load_24 : decode cX5_load 24 = .ok (.aload_n 0, 1) := by decide +kernel
theorem dX5_load_25 : decode cX5_load 25 = .ok (.getfield 10, 3) := by decide +kernel
theorem dX5_load_28 : decode cX5_load 28 = .ok (.aload_n 0, 1) := by decide +kernel
theorem dX5_load_29 : decode cX5_load 29 = .ok (.getfield 10, 3) := by decide +kernel
theorem dX5_load_32 : decode cX5_load 32 = .ok (.getfield 97, 3) := by decide +kernel
theorem dX5_load_35 : decode cX5_load 35 = .ok (.iload_n 1, 1) := by decide +kernel
theorem dX5_load_36 : decode cX5_load 36 = .ok (.invokevirtual 115, 3) := by decide +kernel
theorem dX5_load_39 : decode cX5_load 39 = .ok (.aload_n 0, 1) := by decide +kernel
theorem dX5_load_40 : decode cX5_load 40 = .ok (.getfield 23, 3) := by decide +kernel
theorem dX5_load_43 : decode cX5_load 43 = .ok (.getfield 134, 3) := by decide +kernel
theorem dX5_load_46 : decode cX5_load 46 = .ok (.iload_n 2, 1) := by decide +kernel
theorem dX5_load_47 : decode cX5_load 47 = .ok (.iaload, 1) := by decide +kernel
theorem dX5_load_48 : decode cX5_load 48 = .ok (.ireturn, 1) := by decide +kernel
set_option maxRecDepth 20000 in
theorem ggX5_rise_X1_codesRise : GoodIn wsX5_rise wsX1_codesRise := goodIn_r _ [6, 7, 8, 9, 10, 11, 5, 12, 13, 14, 21, 22, 23, 24, 25, 26, 27, 28, 29, 30] (by decide +kernel) (by decide +kernel)
set_option maxRecDepth 20000 in
theorem gX5_rise_X1_codesRise : GoodIn wsX5_rise (wsV RX5 137 RX1 yX1_codesRise wsX1_codesRise) := goodIn_app (goodIn_of _ (by decide +kernel)) ggX5_rise_X1_codesRise
theorem dX5_rise_0 : decode cX5_rise 0 = .ok (.aload_n 0, 1) := by decide +kernel
theorem dX5_rise_1 : decode cX5_rise 1 = .ok (.getfield 10, 3) := by decide +kernel
theorem dX5_rise_4 : decode cX5_rise 4 = .ok (.invokevirtual 137, 3) := by decide +kernel
theorem dX5_rise_7 : decode cX5_rise 7 = .ok (.ifCond .eq 7, 3) := by decide +kernel
theorem dX5_rise_10 : decode cX5_rise 10 = .ok (.iconst 1, 1) := by decide +kernel
theorem dX5_rise_11 : decode cX5_rise 11 = .ok (.goto 4, 3) := by decide +kernel
theorem dX5_rise_14 : decode cX5_rise 14 = .ok (.iconst 0, 1) := by decide +kernel
theorem dX5_rise_15 : decode cX5_rise 15 = .ok (.ireturn, 1) := by decide +kernel
set_option maxRecDepth 20000 in
theorem ggX5_best_X5_isPasses : GoodIn wsX5_best wsX5_isPasses := goodIn_r _ [6, 7, 8, 5, 9] (by decide +kernel) (by decide +kernel)
set_option maxRecDepth 20000 in
theorem gX5_best_X5_isPasses : GoodIn wsX5_best (va_wsS RX5 112 yX5_isPasses wsX5_isPasses) := goodIn_app (goodIn_of _ (by decide +kernel)) ggX5_best_X5_isPasses
set_option maxRecDepth 20000 in
theorem ggX5_best_X5_isWithin : GoodIn wsX5_best wsX5_isWithin := goodIn_r _ [9] (by decide +kernel) (by decide +kernel)
set_option maxRecDepth 20000 in
theorem gX5_best_X5_isWithin : GoodIn wsX5_best (va_wsS RX5 45 yX5_isWithin wsX5_isWithin) := goodIn_app (goodIn_of _ (by decide +kernel)) ggX5_best_X5_isWithin
set_option maxRecDepth 20000 in
theorem ggX5_best_X5_asksCode : GoodIn wsX5_best wsX5_asksCode := goodIn_r _ [12, 7, 8, 5, 9] (by decide +kernel) (by decide +kernel)
set_option maxRecDepth 20000 in
theorem gX5_best_X5_asksCode : GoodIn wsX5_best (va_wsS RX5 141 yX5_asksCode wsX5_asksCode) := goodIn_app (goodIn_of _ (by decide +kernel)) ggX5_best_X5_asksCode
set_option maxRecDepth 20000 in
theorem ggX5_best_X5_hasPlanCodes : GoodIn wsX5_best wsX5_hasPlanCodes := goodIn_r _ [16, 2, 17, 18, 5, 19, 109, 110, 111, 112, 113, 114, 123, 124, 125, 126, 127, 128, 129, 130, 131, 132] (by decide +kernel) (by decide +kernel)
set_option maxRecDepth 20000 in
theorem gX5_best_X5_hasPlanCodes : GoodIn wsX5_best (wsV RX5 144 RX5 yX5_hasPlanCodes wsX5_hasPlanCodes) := goodIn_app (goodIn_of _ (by decide +kernel)) ggX5_best_X5_hasPlanCodes
set_option maxRecDepth 20000 in
theorem ggX5_best_X0_find : GoodIn wsX5_best wsX0_find := goodIn_r _ [24, 25, 26, 27, 28, 29, 23, 30, 31, 32, 33, 34, 35, 36, 37, 38, 39, 40, 41, 42, 43, 44, 18, 5, 19, 45, 46, 47, 48, 49, 50, 51, 52, 53, 54, 55, 56, 57, 58, 59, 60, 61, 62, 63, 64, 65, 66, 67, 68, 69, 70, 71, 72, 73, 74, 75, 76, 77, 78, 79, 80, 81, 82, 83, 84, 85, 86, 87, 88, 89, 90, 91, 92, 93, 94, 95, 96, 97, 98, 99, 100, 101, 102, 103, 104, 105, 106, 107, 115, 116, 117, 118, 119, 120, 121, 122, 123, 124, 125, 126, 127, 128, 129, 130, 131, 132, 133, 134, 135, 136, 137, 138, 139, 140, 141, 142, 143] (by decide +kernel) (by decide +kernel)
set_option maxRecDepth 20000 in
theorem gX5_best_X0_find : GoodIn wsX5_best (wsV RX5 147 RX0 yX0_find wsX0_find) := goodIn_app (goodIn_of _ (by decide +kernel)) ggX5_best_X0_find
set_option maxRecDepth 20000 in
theorem ggX5_best_X1_hasLetterAt : GoodIn wsX5_best wsX1_hasLetterAt := goodIn_r _ [49, 50, 51, 123, 124, 125, 126, 127, 128, 129, 130, 131, 132] (by decide +kernel) (by decide +kernel)
set_option maxRecDepth 20000 in
theorem gX5_best_X1_hasLetterAt : GoodIn wsX5_best (wsV RX5 160 RX1 yX1_hasLetterAt wsX1_hasLetterAt) := goodIn_app (goodIn_of _ (by decide +kernel)) ggX5_best_X1_hasLetterAt
theorem dX5_best_0 : decode cX5_best 0 = .ok (.iload_n 1, 1) := by decide +kernel
theorem dX5_best_1 : decode cX5_best 1 = .ok (.invokestatic 112, 3) := by decide +kernel
theorem dX5_best_4 : decode cX5_best 4 = .ok (.ifCond .eq 19, 3) := by decide +kernel
theorem dX5_best_7 : decode cX5_best 7 = .ok (.iload_n 2, 1) := by decide +kernel
theorem dX5_best_8 : decode cX5_best 8 = .ok (.iconst 0, 1) := by decide +kernel
theorem dX5_best_9 : decode cX5_best 9 = .ok (.iconst 2, 1) := by decide +kernel
theorem dX5_best_10 : decode cX5_best 10 = .ok (.invokestatic 45, 3) := by decide +kernel
theorem dX5_best_13 : decode cX5_best 13 = .ok (.ifCond .ne 13, 3) := by decide +kernel
theorem dX5_best_16 : decode cX5_best 16 = .ok (.iload_n 2, 1) := by decide +kernel
theorem dX5_best_17 : decode cX5_best 17 = .ok (.invokestatic 141, 3) := by decide +kernel
theorem dX5_best_20 : decode cX5_best 20 = .ok (.ifCond .ne 6, 3) := by decide +kernel
theorem dX5_best_23 : decode cX5_best 23 = .ok (.bipush (-2), 2) := by decide +kernel
theorem dX5_best_25 : decode cX5_best 25 = .ok (.ireturn, 1) := by decide +kernel
theorem dX5_best_26 : decode cX5_best 26 = .ok (.aload_n 0, 1) := by decide +kernel
theorem dX5_best_27 : decode cX5_best 27 = .ok (.iload_n 1, 1) := by decide +kernel
theorem dX5_best_28 : decode cX5_best 28 = .ok (.invokevirtual 144, 3) := by decide +kernel
theorem dX5_best_31 : decode cX5_best 31 = .ok (.ifCond .ne 6, 3) := by decide +kernel
theorem dX5_best_34 : decode cX5_best 34 = .ok (.bipush (-5), 2) := by decide +kernel
theorem dX5_best_36 : decode cX5_best 36 = .ok (.ireturn, 1) := by decide +kernel
theorem dX5_best_37 : decode cX5_best 37 = .ok (.aload_n 0, 1) := by decide +kernel
theorem dX5_best_38 : decode cX5_best 38 = .ok (.getfield 30, 3) := by decide +kernel
theorem dX5_best_41 : decode cX5_best 41 = .ok (.aload_n 0, 1) := by decide +kernel
theorem dX5_best_42 : decode cX5_best 42 = .ok (.getfield 10, 3) := by decide +kernel
theorem dX5_best_45 : decode cX5_best 45 = .ok (.iload_n 1, 1) := by decide +kernel
theorem dX5_best_46 : decode cX5_best 46 = .ok (.invokevirtual 147, 3) := by decide +kernel
theorem dX5_best_49 : decode cX5_best 49 = .ok (.iload_n 2, 1) := by decide +kernel
theorem dX5_best_50 : decode cX5_best 50 = .ok (.iconst 2, 1) := by decide +kernel
theorem dX5_best_51 : decode cX5_best 51 = .ok (.if_icmp .ne 11, 3) := by decide +kernel
theorem dX5_best_54 : decode cX5_best 54 = .ok (.aload_n 0, 1) := by decide +kernel
theorem dX5_best_55 : decode cX5_best 55 = .ok (.getfield 30, 3) := by decide +kernel
theorem dX5_best_58 : decode cX5_best 58 = .ok (.getfield 151, 3) := by decide +kernel
theorem dX5_best_61 : decode cX5_best 61 = .ok (.ireturn, 1) := by decide +kernel
theorem dX5_best_62 : decode cX5_best 62 = .ok (.aload_n 0, 1) := by decide +kernel
theorem dX5_best_63 : decode cX5_best 63 = .ok (.getfield 30, 3) := by decide +kernel
theorem dX5_best_66 : decode cX5_best 66 = .ok (.getfield 151, 3) := by decide +kernel
theorem dX5_best_69 : decode cX5_best 69 = .ok (.ifCond .ne 6, 3) := by decide +kernel
theorem dX5_best_72 : decode cX5_best 72 = .ok (.bipush (-6), 2) := by decide +kernel
theorem dX5_best_74 : decode cX5_best 74 = .ok (.ireturn, 1) := by decide +kernel
theorem dX5_best_75 : decode cX5_best 75 = .ok (.iload_n 2, 1) := by decide +kernel
theorem dX5_best_76 : decode cX5_best 76 = .ok (.ifCond .ne 11, 3) := by decide +kernel
theorem dX5_best_79 : decode cX5_best 79 = .ok (.aload_n 0, 1) := by decide +kernel
theorem dX5_best_80 : decode cX5_best 80 = .ok (.getfield 30, 3) := by decide +kernel
theorem dX5_best_83 : decode cX5_best 83 = .ok (.getfield 154, 3) := by decide +kernel
theorem dX5_best_86 : decode cX5_best 86 = .ok (.ireturn, 1) := by decide +kernel
theorem dX5_best_87 : decode cX5_best 87 = .ok (.iload_n 2, 1) := by decide +kernel
theorem dX5_best_88 : decode cX5_best 88 = .ok (.iconst 1, 1) := by decide +kernel
theorem dX5_best_89 : decode cX5_best 89 = .ok (.if_icmp .ne 11, 3) := by decide +kernel
theorem dX5_best_92 : decode cX5_best 92 = .ok (.aload_n 0, 1) := by decide +kernel
theorem dX5_best_93 : decode cX5_best 93 = .ok (.getfield 30, 3) := by decide +kernel
theorem dX5_best_96 : decode cX5_best 96 = .ok (.getfield 157, 3) := by decide +kernel
theorem dX5_best_99 : decode cX5_best 99 = .ok (.ireturn, 1) := by decide +kernel
theorem dX5_best_100 : decode cX5_best 100 = .ok (.iload_n 2, 1) := by decide +kernel
theorem dX5_best_101 : decode cX5_best 101 = .ok (.bipush 10, 2) := by decide +kernel
theorem dX5_best_103 : decode cX5_best 103 = .ok (.isub, 1) := by decide +kernel
theorem dX5_best_104 : decode cX5_best 104 = .ok (.istore_n 3, 1) := by decide +kernel
theorem dX5_best_105 : decode cX5_best 105 = .ok (.aload_n 0, 1) := by decide +kernel
theorem dX5_best_106 : decode cX5_best 106 = .ok (.getfield 10, 3) := by decide +kernel
theorem dX5_best_109 : decode cX5_best 109 = .ok (.iload_n 3, 1) := by decide +kernel
theorem dX5_best_110 : decode cX5_best 110 = .ok (.invokevirtual 160, 3) := by decide +kernel
theorem dX5_best_113 : decode cX5_best 113 = .ok (.ifCond .eq 15, 3) := by decide +kernel
theorem dX5_best_116 : decode cX5_best 116 = .ok (.aload_n 0, 1) := by decide +kernel
theorem dX5_best_117 : decode cX5_best 117 = .ok (.getfield 30, 3) := by decide +kernel
theorem dX5_best_120 : decode cX5_best 120 = .ok (.getfield 163, 3) := by decide +kernel
theorem dX5_best_123 : decode cX5_best 123 = .ok (.iload_n 3, 1) := by decide +kernel
theorem dX5_best_124 : decode cX5_best 124 = .ok (.iaload, 1) := by decide +kernel
theorem dX5_best_125 : decode cX5_best 125 = .ok (.goto 5, 3) := by decide +kernel
theorem dX5_best_128 : decode cX5_best 128 = .ok (.bipush (-6), 2) := by decide +kernel
theorem dX5_best_130 : decode cX5_best 130 = .ok (.ireturn, 1) := by decide +kernel
set_option maxRecDepth 20000 in
theorem ggX5_take_X5_isPasses : GoodIn wsX5_take wsX5_isPasses := goodIn_r _ [6, 7, 8, 5, 9] (by decide +kernel) (by decide +kernel)
set_option maxRecDepth 20000 in
theorem gX5_take_X5_isPasses : GoodIn wsX5_take (va_wsS RX5 112 yX5_isPasses wsX5_isPasses) := goodIn_app (goodIn_of _ (by decide +kernel)) ggX5_take_X5_isPasses
set_option maxRecDepth 20000 in
theorem ggX5_take_X5_hasPlanCodes : GoodIn wsX5_take wsX5_hasPlanCodes := goodIn_r _ [13, 2, 14, 15, 5, 16, 111, 112, 113, 114, 115, 116, 125, 126, 127, 128, 129, 130, 131, 132, 133, 134] (by decide +kernel) (by decide +kernel)
set_option maxRecDepth 20000 in
theorem gX5_take_X5_hasPlanCodes : GoodIn wsX5_take (wsV RX5 144 RX5 yX5_hasPlanCodes wsX5_hasPlanCodes) := goodIn_app (goodIn_of _ (by decide +kernel)) ggX5_take_X5_hasPlanCodes
set_option maxRecDepth 20000 in
theorem ggX5_take_X0_find : GoodIn wsX5_take wsX0_find := goodIn_r _ [21, 22, 23, 24, 25, 26, 20, 27, 28, 29, 30, 31, 32, 33, 34, 35, 36, 37, 38, 39, 40, 41, 15, 5, 16, 42, 43, 44, 45, 46, 47, 48, 49, 50, 51, 52, 53, 54, 55, 56, 57, 58, 59, 60, 61, 62, 63, 64, 65, 66, 67, 68, 69, 70, 71, 72, 73, 74, 75, 76, 77, 78, 79, 80, 81, 82, 83, 84, 85, 86, 87, 88, 89, 90, 91, 92, 93, 94, 95, 96, 97, 98, 99, 100, 101, 102, 103, 104, 117, 118, 119, 120, 121, 122, 123, 124, 125, 126, 127, 128, 129, 130, 131, 132, 133, 134, 135, 136, 137, 138, 139, 140, 141, 142, 143, 144, 145] (by decide +kernel) (by decide +kernel)
set_option maxRecDepth 20000 in
theorem gX5_take_X0_find : GoodIn wsX5_take (wsV RX5 147 RX0 yX0_find wsX0_find) := goodIn_app (goodIn_of _ (by decide +kernel)) ggX5_take_X0_find
set_option maxRecDepth 20000 in
theorem ggX5_take_X1_takeCodes : GoodIn wsX5_take wsX1_takeCodes := goodIn_r _ [108, 109, 110, 43, 44, 45, 46, 47, 48, 125, 126, 127, 128, 129, 130, 131, 132, 133, 134] (by decide +kernel) (by decide +kernel)
set_option maxRecDepth 20000 in
theorem gX5_take_X1_takeCodes : GoodIn wsX5_take (wsV RX5 164 RX1 yX1_takeCodes wsX1_takeCodes) := goodIn_app (goodIn_of _ (by decide +kernel)) ggX5_take_X1_takeCodes
theorem dX5_take_0 : decode cX5_take 0 = .ok (.iload_n 1, 1) := by decide +kernel
theorem dX5_take_1 : decode cX5_take 1 = .ok (.invokestatic 112, 3) := by decide +kernel
theorem dX5_take_4 : decode cX5_take 4 = .ok (.ifCond .ne 6, 3) := by decide +kernel
theorem dX5_take_7 : decode cX5_take 7 = .ok (.bipush (-2), 2) := by decide +kernel
theorem dX5_take_9 : decode cX5_take 9 = .ok (.ireturn, 1) := by decide +kernel
theorem dX5_take_10 : decode cX5_take 10 = .ok (.aload_n 0, 1) := by decide +kernel
theorem dX5_take_11 : decode cX5_take 11 = .ok (.iload_n 1, 1) := by decide +kernel
theorem dX5_take_12 : decode cX5_take 12 = .ok (.invokevirtual 144, 3) := by decide +kernel
theorem dX5_take_15 : decode cX5_take 15 = .ok (.ifCond .ne 6, 3) := by decide +kernel
theorem dX5_take_18 : decode cX5_take 18 = .ok (.bipush (-5), 2) := by decide +kernel
theorem dX5_take_20 : decode cX5_take 20 = .ok (.ireturn, 1) := by decide +kernel
theorem dX5_take_21 : decode cX5_take 21 = .ok (.aload_n 0, 1) := by decide +kernel
theorem dX5_take_22 : decode cX5_take 22 = .ok (.getfield 30, 3) := by decide +kernel
theorem dX5_take_25 : decode cX5_take 25 = .ok (.aload_n 0, 1) := by decide +kernel
theorem dX5_take_26 : decode cX5_take 26 = .ok (.getfield 10, 3) := by decide +kernel
theorem dX5_take_29 : decode cX5_take 29 = .ok (.iload_n 1, 1) := by decide +kernel
theorem dX5_take_30 : decode cX5_take 30 = .ok (.invokevirtual 147, 3) := by decide +kernel
theorem dX5_take_33 : decode cX5_take 33 = .ok (.aload_n 0, 1) := by decide +kernel
theorem dX5_take_34 : decode cX5_take 34 = .ok (.getfield 30, 3) := by decide +kernel
theorem dX5_take_37 : decode cX5_take 37 = .ok (.getfield 151, 3) := by decide +kernel
theorem dX5_take_40 : decode cX5_take 40 = .ok (.ifCond .ne 6, 3) := by decide +kernel
theorem dX5_take_43 : decode cX5_take 43 = .ok (.bipush (-5), 2) := by decide +kernel
theorem dX5_take_45 : decode cX5_take 45 = .ok (.ireturn, 1) := by decide +kernel
theorem dX5_take_46 : decode cX5_take 46 = .ok (.aload_n 0, 1) := by decide +kernel
theorem dX5_take_47 : decode cX5_take 47 = .ok (.getfield 10, 3) := by decide +kernel
theorem dX5_take_50 : decode cX5_take 50 = .ok (.aload_n 0, 1) := by decide +kernel
theorem dX5_take_51 : decode cX5_take 51 = .ok (.getfield 30, 3) := by decide +kernel
theorem dX5_take_54 : decode cX5_take 54 = .ok (.getfield 163, 3) := by decide +kernel
theorem dX5_take_57 : decode cX5_take 57 = .ok (.invokevirtual 164, 3) := by decide +kernel
theorem dX5_take_60 : decode cX5_take 60 = .ok (.aload_n 0, 1) := by decide +kernel
theorem dX5_take_61 : decode cX5_take 61 = .ok (.getfield 30, 3) := by decide +kernel
theorem dX5_take_64 : decode cX5_take 64 = .ok (.getfield 154, 3) := by decide +kernel
theorem dX5_take_67 : decode cX5_take 67 = .ok (.ireturn, 1) := by decide +kernel
set_option maxRecDepth 20000 in
theorem ggX5_fewest_X5_hasPlanCodes : GoodIn wsX5_fewest wsX5_hasPlanCodes := goodIn_r _ [7, 2, 8, 9, 6, 10, 69, 70, 71, 72, 73, 74, 75, 76, 77, 78, 79, 80, 81, 82, 83, 84] (by decide +kernel) (by decide +kernel)
set_option maxRecDepth 20000 in
theorem gX5_fewest_X5_hasPlanCodes : GoodIn wsX5_fewest (wsV RX5 144 RX5 yX5_hasPlanCodes wsX5_hasPlanCodes) := goodIn_app (goodIn_of _ (by decide +kernel)) ggX5_fewest_X5_hasPlanCodes
set_option maxRecDepth 20000 in
theorem ggX5_fewest_X4_somePlanFits : GoodIn wsX5_fewest wsX4_somePlanFits := goodIn_r _ [15, 16, 17, 18, 19, 14, 20, 21, 22, 23, 24, 25, 26, 27, 28, 29, 30, 31, 32, 33, 34, 9, 6, 10, 35, 36, 37, 38, 39, 40, 41, 42, 43, 44, 45, 46, 47, 48, 49, 50, 51, 52, 53, 54, 55, 56, 57, 58, 59, 60, 61, 62, 63, 64, 65, 66, 67, 68, 85, 86, 87, 88, 75, 76, 77, 78, 79, 80, 81, 82, 83, 84, 89, 90, 91, 92] (by decide +kernel) (by decide +kernel)
set_option maxRecDepth 20000 in
theorem gX5_fewest_X4_somePlanFits : GoodIn wsX5_fewest (wsV RX5 168 RX4 yX4_somePlanFits wsX4_somePlanFits) := goodIn_app (goodIn_of _ (by decide +kernel)) ggX5_fewest_X4_somePlanFits
theorem dX5_fewest_0 : decode cX5_fewest 0 = .ok (.iconst 1, 1) := by decide +kernel
theorem dX5_fewest_1 : decode cX5_fewest 1 = .ok (.istore_n 1, 1) := by decide +kernel
theorem dX5_fewest_2 : decode cX5_fewest 2 = .ok (.iload_n 1, 1) := by decide +kernel
theorem dX5_fewest_3 : decode cX5_fewest 3 = .ok (.iconst 3, 1) := by decide +kernel
theorem dX5_fewest_4 : decode cX5_fewest 4 = .ok (.if_icmp .gt 34, 3) := by decide +kernel
theorem dX5_fewest_7 : decode cX5_fewest 7 = .ok (.aload_n 0, 1) := by decide +kernel
theorem dX5_fewest_8 : decode cX5_fewest 8 = .ok (.iload_n 1, 1) := by decide +kernel
theorem dX5_fewest_9 : decode cX5_fewest 9 = .ok (.invokevirtual 144, 3) := by decide +kernel
theorem dX5_fewest_12 : decode cX5_fewest 12 = .ok (.ifCond .eq 20, 3) := by decide +kernel
theorem dX5_fewest_15 : decode cX5_fewest 15 = .ok (.aload_n 0, 1) := by decide +kernel
theorem dX5_fewest_16 : decode cX5_fewest 16 = .ok (.getfield 37, 3) := by decide +kernel
theorem dX5_fewest_19 : decode cX5_fewest 19 = .ok (.aload_n 0, 1) := by decide +kernel
theorem dX5_fewest_20 : decode cX5_fewest 20 = .ok (.getfield 10, 3) := by decide +kernel
theorem dX5_fewest_23 : decode cX5_fewest 23 = .ok (.iload_n 1, 1) := by decide +kernel
theorem dX5_fewest_24 : decode cX5_fewest 24 = .ok (.invokevirtual 168, 3) := by decide +kernel
theorem dX5_fewest_27 : decode cX5_fewest 27 = .ok (.ifCond .eq 5, 3) := by decide +kernel
theorem dX5_fewest_30 : decode cX5_fewest 30 = .ok (.iload_n 1, 1) := by decide +kernel
theorem dX5_fewest_31 : decode cX5_fewest 31 = .ok (.ireturn, 1) := by decide +kernel
theorem dX5_fewest_32 : decode cX5_fewest 32 = .ok (.iinc 1 1, 3) := by decide +kernel
theorem dX5_fewest_35 : decode cX5_fewest 35 = .ok (.goto (-33), 3) := by decide +kernel
theorem dX5_fewest_38 : decode cX5_fewest 38 = .ok (.bipush (-6), 2) := by decide +kernel
theorem dX5_fewest_40 : decode cX5_fewest 40 = .ok (.ireturn, 1) := by decide +kernel
set_option maxRecDepth 20000 in
theorem ggX5_needs_X5_isPasses : GoodIn wsX5_needs wsX5_isPasses := goodIn_r _ [6, 7, 8, 5, 9] (by decide +kernel) (by decide +kernel)
set_option maxRecDepth 20000 in
theorem gX5_needs_X5_isPasses : GoodIn wsX5_needs (va_wsS RX5 112 yX5_isPasses wsX5_isPasses) := goodIn_app (goodIn_of _ (by decide +kernel)) ggX5_needs_X5_isPasses
set_option maxRecDepth 20000 in
theorem ggX5_needs_X5_hasPlanCodes : GoodIn wsX5_needs wsX5_hasPlanCodes := goodIn_r _ [13, 2, 14, 15, 5, 16, 76, 77, 78, 79, 80, 81, 82, 83, 84, 85, 86, 87, 88, 89, 90, 91] (by decide +kernel) (by decide +kernel)
set_option maxRecDepth 20000 in
theorem gX5_needs_X5_hasPlanCodes : GoodIn wsX5_needs (wsV RX5 144 RX5 yX5_hasPlanCodes wsX5_hasPlanCodes) := goodIn_app (goodIn_of _ (by decide +kernel)) ggX5_needs_X5_hasPlanCodes
set_option maxRecDepth 20000 in
theorem ggX5_needs_X4_leastRoom : GoodIn wsX5_needs wsX4_leastRoom := goodIn_r _ [21, 22, 23, 24, 25, 26, 20, 27, 28, 29, 30, 31, 32, 33, 34, 35, 36, 37, 38, 39, 40, 41, 15, 5, 16, 42, 43, 44, 45, 46, 47, 48, 49, 50, 51, 52, 53, 54, 55, 56, 57, 58, 59, 60, 61, 62, 63, 64, 65, 66, 67, 68, 69, 70, 71, 72, 73, 74, 75, 92, 93, 94, 95, 82, 83, 84, 85, 86, 87, 88, 89, 90, 91, 96, 97, 98, 99] (by decide +kernel) (by decide +kernel)
set_option maxRecDepth 20000 in
theorem gX5_needs_X4_leastRoom : GoodIn wsX5_needs (wsV RX5 172 RX4 yX4_leastRoom wsX4_leastRoom) := goodIn_app (goodIn_of _ (by decide +kernel)) ggX5_needs_X4_leastRoom
theorem dX5_needs_0 : decode cX5_needs 0 = .ok (.iload_n 1, 1) := by decide +kernel
theorem dX5_needs_1 : decode cX5_needs 1 = .ok (.invokestatic 112, 3) := by decide +kernel
theorem dX5_needs_4 : decode cX5_needs 4 = .ok (.ifCond .ne 6, 3) := by decide +kernel
theorem dX5_needs_7 : decode cX5_needs 7 = .ok (.bipush (-2), 2) := by decide +kernel
theorem dX5_needs_9 : decode cX5_needs 9 = .ok (.ireturn, 1) := by decide +kernel
theorem dX5_needs_10 : decode cX5_needs 10 = .ok (.aload_n 0, 1) := by decide +kernel
theorem dX5_needs_11 : decode cX5_needs 11 = .ok (.iload_n 1, 1) := by decide +kernel
theorem dX5_needs_12 : decode cX5_needs 12 = .ok (.invokevirtual 144, 3) := by decide +kernel
theorem dX5_needs_15 : decode cX5_needs 15 = .ok (.ifCond .ne 6, 3) := by decide +kernel
theorem dX5_needs_18 : decode cX5_needs 18 = .ok (.bipush (-5), 2) := by decide +kernel
theorem dX5_needs_20 : decode cX5_needs 20 = .ok (.ireturn, 1) := by decide +kernel
theorem dX5_needs_21 : decode cX5_needs 21 = .ok (.aload_n 0, 1) := by decide +kernel
theorem dX5_needs_22 : decode cX5_needs 22 = .ok (.getfield 37, 3) := by decide +kernel
theorem dX5_needs_25 : decode cX5_needs 25 = .ok (.aload_n 0, 1) := by decide +kernel
theorem dX5_needs_26 : decode cX5_needs 26 = .ok (.getfield 10, 3) := by decide +kernel
theorem dX5_needs_29 : decode cX5_needs 29 = .ok (.iload_n 1, 1) := by decide +kernel
theorem dX5_needs_30 : decode cX5_needs 30 = .ok (.invokevirtual 172, 3) := by decide +kernel
theorem dX5_needs_33 : decode cX5_needs 33 = .ok (.istore_n 2, 1) := by decide +kernel
theorem dX5_needs_34 : decode cX5_needs 34 = .ok (.iload_n 2, 1) := by decide +kernel
theorem dX5_needs_35 : decode cX5_needs 35 = .ok (.bipush 99, 2) := by decide +kernel
theorem dX5_needs_37 : decode cX5_needs 37 = .ok (.if_icmp .gt 7, 3) := by decide +kernel
theorem dX5_needs_40 : decode cX5_needs 40 = .ok (.iload_n 2, 1) := by decide +kernel
theorem dX5_needs_41 : decode cX5_needs 41 = .ok (.goto 5, 3) := by decide +kernel
theorem dX5_needs_44 : decode cX5_needs 44 = .ok (.bipush (-6), 2) := by decide +kernel
theorem dX5_needs_46 : decode cX5_needs 46 = .ok (.ireturn, 1) := by decide +kernel
set_option maxRecDepth 20000 in
theorem ggX5_image_X5_isImage : GoodIn wsX5_image wsX5_isImage := goodIn_r _ [7, 8, 9, 6, 10] (by decide +kernel) (by decide +kernel)
set_option maxRecDepth 20000 in
theorem gX5_image_X5_isImage : GoodIn wsX5_image (va_wsS RX5 175 yX5_isImage wsX5_isImage) := goodIn_app (goodIn_of _ (by decide +kernel)) ggX5_image_X5_isImage
set_option maxRecDepth 20000 in
theorem ggX5_image_X1_copyFrom : GoodIn wsX5_image wsX1_copyFrom := goodIn_r _ [15, 16, 17, 18, 19, 20, 21, 22, 23, 24, 25, 26, 27, 14, 28, 29, 30, 31, 32, 39, 40, 41, 42, 43, 44, 45, 46, 47, 48] (by decide +kernel) (by decide +kernel)
set_option maxRecDepth 20000 in
theorem gX5_image_X1_copyFrom : GoodIn wsX5_image (wsV RX5 178 RX1 yX1_copyFrom wsX1_copyFrom) := goodIn_app (goodIn_of _ (by decide +kernel)) ggX5_image_X1_copyFrom
theorem dX5_image_0 : decode cX5_image 0 = .ok (.iload_n 1, 1) := by decide +kernel
theorem dX5_image_1 : decode cX5_image 1 = .ok (.invokestatic 175, 3) := by decide +kernel
theorem dX5_image_4 : decode cX5_image 4 = .ok (.ifCond .ne 6, 3) := by decide +kernel
theorem dX5_image_7 : decode cX5_image 7 = .ok (.bipush (-2), 2) := by decide +kernel
theorem dX5_image_9 : decode cX5_image 9 = .ok (.ireturn, 1) := by decide +kernel
theorem dX5_image_10 : decode cX5_image 10 = .ok (.aload_n 0, 1) := by decide +kernel
theorem dX5_image_11 : decode cX5_image 11 = .ok (.getfield 16, 3) := by decide +kernel
theorem dX5_image_14 : decode cX5_image 14 = .ok (.iload_n 1, 1) := by decide +kernel
theorem dX5_image_15 : decode cX5_image 15 = .ok (.aaload, 1) := by decide +kernel
theorem dX5_image_16 : decode cX5_image 16 = .ok (.aload_n 0, 1) := by decide +kernel
theorem dX5_image_17 : decode cX5_image 17 = .ok (.getfield 10, 3) := by decide +kernel
theorem dX5_image_20 : decode cX5_image 20 = .ok (.invokevirtual 178, 3) := by decide +kernel
theorem dX5_image_23 : decode cX5_image 23 = .ok (.aload_n 0, 1) := by decide +kernel
theorem dX5_image_24 : decode cX5_image 24 = .ok (.dup, 1) := by decide +kernel
theorem dX5_image_25 : decode cX5_image 25 = .ok (.getfield 182, 3) := by decide +kernel
theorem dX5_image_28 : decode cX5_image 28 = .ok (.iconst 1, 1) := by decide +kernel
theorem dX5_image_29 : decode cX5_image 29 = .ok (.iload_n 1, 1) := by decide +kernel
theorem dX5_image_30 : decode cX5_image 30 = .ok (.ishl, 1) := by decide +kernel
theorem dX5_image_31 : decode cX5_image 31 = .ok (.ior, 1) := by decide +kernel
theorem dX5_image_32 : decode cX5_image 32 = .ok (.putfield 182, 3) := by decide +kernel
theorem dX5_image_35 : decode cX5_image 35 = .ok (.iconst 1, 1) := by decide +kernel
theorem dX5_image_36 : decode cX5_image 36 = .ok (.ireturn, 1) := by decide +kernel
set_option maxRecDepth 20000 in
theorem ggX5_restore_X5_isImage : GoodIn wsX5_restore wsX5_isImage := goodIn_r _ [7, 8, 9, 6, 10] (by decide +kernel) (by decide +kernel)
set_option maxRecDepth 20000 in
theorem gX5_restore_X5_isImage : GoodIn wsX5_restore (va_wsS RX5 175 yX5_isImage wsX5_isImage) := goodIn_app (goodIn_of _ (by decide +kernel)) ggX5_restore_X5_isImage
set_option maxRecDepth 20000 in
theorem ggX5_restore_X1_copyFrom : GoodIn wsX5_restore wsX1_copyFrom := goodIn_r _ [15, 16, 17, 18, 19, 20, 21, 22, 23, 24, 25, 26, 27, 14, 28, 29, 30, 31, 32, 39, 40, 41, 42, 43, 44, 45, 46, 47, 48] (by decide +kernel) (by decide +kernel)
set_option maxRecDepth 20000 in
theorem gX5_restore_X1_copyFrom : GoodIn wsX5_restore (wsV RX5 178 RX1 yX1_copyFrom wsX1_copyFrom) := goodIn_app (goodIn_of _ (by decide +kernel)) ggX5_restore_X1_copyFrom
theorem dX5_restore_0 : decode cX5_restore 0 = .ok (.iload_n 1, 1) := by decide +kernel
theorem dX5_restore_1 : decode cX5_restore 1 = .ok (.invokestatic 175, 3) := by decide +kernel
theorem dX5_restore_4 : decode cX5_restore 4 = .ok (.ifCond .ne 6, 3) := by decide +kernel
theorem dX5_restore_7 : decode cX5_restore 7 = .ok (.bipush (-2), 2) := by decide +kernel
theorem dX5_restore_9 : decode cX5_restore 9 = .ok (.ireturn, 1) := by decide +kernel
theorem dX5_restore_10 : decode cX5_restore 10 = .ok (.aload_n 0, 1) := by decide +kernel
theorem dX5_restore_11 : decode cX5_restore 11 = .ok (.getfield 182, 3) := by decide +kernel
theorem dX5_restore_14 : decode cX5_restore 14 = .ok (.iload_n 1, 1) := by decide +kernel
theorem dX5_restore_15 : decode cX5_restore 15 = .ok (.ishr, 1) := by decide +kernel
theorem dX5_restore_16 : decode cX5_restore 16 = .ok (.iconst 1, 1) := by decide +kernel
theorem dX5_restore_17 : decode cX5_restore 17 = .ok (.iand, 1) := by decide +kernel
theorem dX5_restore_18 : decode cX5_restore 18 = .ok (.ifCond .ne 6, 3) := by decide +kernel
theorem dX5_restore_21 : decode cX5_restore 21 = .ok (.bipush (-3), 2) := by decide +kernel
theorem dX5_restore_23 : decode cX5_restore 23 = .ok (.ireturn, 1) := by decide +kernel
theorem dX5_restore_24 : decode cX5_restore 24 = .ok (.aload_n 0, 1) := by decide +kernel
theorem dX5_restore_25 : decode cX5_restore 25 = .ok (.getfield 10, 3) := by decide +kernel
theorem dX5_restore_28 : decode cX5_restore 28 = .ok (.aload_n 0, 1) := by decide +kernel
theorem dX5_restore_29 : decode cX5_restore 29 = .ok (.getfield 16, 3) := by decide +kernel
theorem dX5_restore_32 : decode cX5_restore 32 = .ok (.iload_n 1, 1) := by decide +kernel
theorem dX5_restore_33 : decode cX5_restore 33 = .ok (.aaload, 1) := by decide +kernel
theorem dX5_restore_34 : decode cX5_restore 34 = .ok (.invokevirtual 178, 3) := by decide +kernel
theorem dX5_restore_37 : decode cX5_restore 37 = .ok (.iconst 1, 1) := by decide +kernel
theorem dX5_restore_38 : decode cX5_restore 38 = .ok (.ireturn, 1) := by decide +kernel
set_option maxRecDepth 20000 in
theorem ggX5_count_X5_asksCode : GoodIn wsX5_count wsX5_asksCode := goodIn_r _ [6, 7, 8, 5, 9] (by decide +kernel) (by decide +kernel)
set_option maxRecDepth 20000 in
theorem gX5_count_X5_asksCode : GoodIn wsX5_count (va_wsS RX5 141 yX5_asksCode wsX5_asksCode) := goodIn_app (goodIn_of _ (by decide +kernel)) ggX5_count_X5_asksCode
set_option maxRecDepth 20000 in
theorem ggX5_count_X1_countMisread : GoodIn wsX5_count wsX1_countMisread := goodIn_r _ [14, 15, 16, 17, 18, 13, 19, 46, 47, 48, 49, 50, 51, 52, 53, 54, 55] (by decide +kernel) (by decide +kernel)
set_option maxRecDepth 20000 in
theorem gX5_count_X1_countMisread : GoodIn wsX5_count (wsV RX5 64 RX1 yX1_countMisread wsX1_countMisread) := goodIn_app (goodIn_of _ (by decide +kernel)) ggX5_count_X1_countMisread
set_option maxRecDepth 20000 in
theorem ggX5_count_X1_countPoints : GoodIn wsX5_count wsX1_countPoints := goodIn_r _ [23, 24, 25, 26, 13, 27, 16, 28, 46, 47, 48, 49, 50, 51, 52, 53, 54, 55] (by decide +kernel) (by decide +kernel)
set_option maxRecDepth 20000 in
theorem gX5_count_X1_countPoints : GoodIn wsX5_count (wsV RX5 185 RX1 yX1_countPoints wsX1_countPoints) := goodIn_app (goodIn_of _ (by decide +kernel)) ggX5_count_X1_countPoints
set_option maxRecDepth 20000 in
theorem ggX5_count_X1_addThicks : GoodIn wsX5_count wsX1_addThicks := goodIn_r _ [32, 33, 16, 17, 18, 13, 19, 46, 47, 48, 49, 50, 51, 52, 53, 54, 55] (by decide +kernel) (by decide +kernel)
set_option maxRecDepth 20000 in
theorem gX5_count_X1_addThicks : GoodIn wsX5_count (wsV RX5 188 RX1 yX1_addThicks wsX1_addThicks) := goodIn_app (goodIn_of _ (by decide +kernel)) ggX5_count_X1_addThicks
set_option maxRecDepth 20000 in
theorem ggX5_count_X1_addRooms : GoodIn wsX5_count wsX1_addRooms := goodIn_r _ [37, 38, 39, 17, 18, 13, 19, 46, 47, 48, 49, 50, 51, 52, 53, 54, 55] (by decide +kernel) (by decide +kernel)
set_option maxRecDepth 20000 in
theorem gX5_count_X1_addRooms : GoodIn wsX5_count (wsV RX5 191 RX1 yX1_addRooms wsX1_addRooms) := goodIn_app (goodIn_of _ (by decide +kernel)) ggX5_count_X1_addRooms
theorem dX5_count_0 : decode cX5_count 0 = .ok (.iload_n 1, 1) := by decide +kernel
theorem dX5_count_1 : decode cX5_count 1 = .ok (.invokestatic 141, 3) := by decide +kernel
theorem dX5_count_4 : decode cX5_count 4 = .ok (.ifCond .eq 16, 3) := by decide +kernel
theorem dX5_count_7 : decode cX5_count 7 = .ok (.aload_n 0, 1) := by decide +kernel
theorem dX5_count_8 : decode cX5_count 8 = .ok (.getfield 10, 3) := by decide +kernel
theorem dX5_count_11 : decode cX5_count 11 = .ok (.getfield 97, 3) := by decide +kernel
theorem dX5_count_14 : decode cX5_count 14 = .ok (.iload_n 1, 1) := by decide +kernel
theorem dX5_count_15 : decode cX5_count 15 = .ok (.bipush 10, 2) := by decide +kernel
theorem dX5_count_17 : decode cX5_count 17 = .ok (.isub, 1) := by decide +kernel
theorem dX5_count_18 : decode cX5_count 18 = .ok (.iaload, 1) := by decide +kernel
theorem dX5_count_19 : decode cX5_count 19 = .ok (.ireturn, 1) := by decide +kernel
theorem dX5_count_20 : decode cX5_count 20 = .ok (.iload_n 1, 1) := by decide +kernel
theorem dX5_count_21 : decode cX5_count 21 = .ok (.tableswitch 96 0 6 #[43, 51, 59, 67, 75, 83, 91], 43) := by decide +kernel
theorem dX5_count_64 : decode cX5_count 64 = .ok (.aload_n 0, 1) := by decide +kernel
theorem dX5_count_65 : decode cX5_count 65 = .ok (.getfield 10, 3) := by decide +kernel
theorem dX5_count_68 : decode cX5_count 68 = .ok (.getfield 49, 3) := by decide +kernel
theorem dX5_count_71 : decode cX5_count 71 = .ok (.ireturn, 1) := by decide +kernel
theorem dX5_count_72 : decode cX5_count 72 = .ok (.aload_n 0, 1) := by decide +kernel
theorem dX5_count_73 : decode cX5_count 73 = .ok (.getfield 10, 3) := by decide +kernel
theorem dX5_count_76 : decode cX5_count 76 = .ok (.invokevirtual 64, 3) := by decide +kernel
theorem dX5_count_79 : decode cX5_count 79 = .ok (.ireturn, 1) := by decide +kernel
theorem dX5_count_80 : decode cX5_count 80 = .ok (.aload_n 0, 1) := by decide +kernel
theorem dX5_count_81 : decode cX5_count 81 = .ok (.getfield 10, 3) := by decide +kernel
theorem dX5_count_84 : decode cX5_count 84 = .ok (.invokevirtual 185, 3) := by decide +kernel
theorem dX5_count_87 : decode cX5_count 87 = .ok (.ireturn, 1) := by decide +kernel
theorem dX5_count_88 : decode cX5_count 88 = .ok (.aload_n 0, 1) := by decide +kernel
theorem dX5_count_89 : decode cX5_count 89 = .ok (.getfield 10, 3) := by decide +kernel
theorem dX5_count_92 : decode cX5_count 92 = .ok (.getfield 82, 3) := by decide +kernel
theorem dX5_count_95 : decode cX5_count 95 = .ok (.ireturn, 1) := by decide +kernel
theorem dX5_count_96 : decode cX5_count 96 = .ok (.aload_n 0, 1) := by decide +kernel
theorem dX5_count_97 : decode cX5_count 97 = .ok (.getfield 10, 3) := by decide +kernel
theorem dX5_count_100 : decode cX5_count 100 = .ok (.invokevirtual 188, 3) := by decide +kernel
theorem dX5_count_103 : decode cX5_count 103 = .ok (.ireturn, 1) := by decide +kernel
theorem dX5_count_104 : decode cX5_count 104 = .ok (.aload_n 0, 1) := by decide +kernel
theorem dX5_count_105 : decode cX5_count 105 = .ok (.getfield 10, 3) := by decide +kernel
theorem dX5_count_108 : decode cX5_count 108 = .ok (.invokevirtual 191, 3) := by decide +kernel
theorem dX5_count_111 : decode cX5_count 111 = .ok (.ireturn, 1) := by decide +kernel
theorem dX5_count_112 : decode cX5_count 112 = .ok (.aload_n 0, 1) := by decide +kernel
theorem dX5_count_113 : decode cX5_count 113 = .ok (.getfield 182, 3) := by decide +kernel
theorem dX5_count_116 : decode cX5_count 116 = .ok (.ireturn, 1) := by decide +kernel
theorem dX5_count_117 : decode cX5_count 117 = .ok (.bipush (-2), 2) := by decide +kernel
theorem dX5_count_119 : decode cX5_count 119 = .ok (.ireturn, 1) := by decide +kernel
theorem dX5_isWithin_0 : decode cX5_isWithin 0 = .ok (.iload_n 0, 1) := by decide +kernel
theorem dX5_isWithin_1 : decode cX5_isWithin 1 = .ok (.iload_n 1, 1) := by decide +kernel
theorem dX5_isWithin_2 : decode cX5_isWithin 2 = .ok (.if_icmp .lt 12, 3) := by decide +kernel
theorem dX5_isWithin_5 : decode cX5_isWithin 5 = .ok (.iload_n 0, 1) := by decide +kernel
theorem dX5_isWithin_6 : decode cX5_isWithin 6 = .ok (.iload_n 2, 1) := by decide +kernel
theorem dX5_isWithin_7 : decode cX5_isWithin 7 = .ok (.if_icmp .gt 7, 3) := by decide +kernel
theorem dX5_isWithin_10 : decode cX5_isWithin 10 = .ok (.iconst 1, 1) := by decide +kernel
theorem dX5_isWithin_11 : decode cX5_isWithin 11 = .ok (.goto 4, 3) := by decide +kernel
theorem dX5_isWithin_14 : decode cX5_isWithin 14 = .ok (.iconst 0, 1) := by decide +kernel
theorem dX5_isWithin_15 : decode cX5_isWithin 15 = .ok (.ireturn, 1) := by decide +kernel
set_option maxRecDepth 20000 in
theorem ggX5_isPoint_X5_isWithin : GoodIn wsX5_isPoint wsX5_isWithin := goodIn_r _ [4] (by decide +kernel) (by decide +kernel)
set_option maxRecDepth 20000 in
theorem gX5_isPoint_X5_isWithin : GoodIn wsX5_isPoint (va_wsS RX5 45 yX5_isWithin wsX5_isWithin) := goodIn_app (goodIn_of _ (by decide +kernel)) ggX5_isPoint_X5_isWithin
theorem dX5_isPoint_0 : decode cX5_isPoint 0 = .ok (.iload_n 0, 1) := by decide +kernel
theorem dX5_isPoint_1 : decode cX5_isPoint 1 = .ok (.iconst 0, 1) := by decide +kernel
theorem dX5_isPoint_2 : decode cX5_isPoint 2 = .ok (.bipush 9, 2) := by decide +kernel
theorem dX5_isPoint_4 : decode cX5_isPoint 4 = .ok (.invokestatic 45, 3) := by decide +kernel
theorem dX5_isPoint_7 : decode cX5_isPoint 7 = .ok (.ireturn, 1) := by decide +kernel
set_option maxRecDepth 20000 in
theorem ggX5_isLetter_X5_isWithin : GoodIn wsX5_isLetter wsX5_isWithin := goodIn_r _ [5] (by decide +kernel) (by decide +kernel)
set_option maxRecDepth 20000 in
theorem gX5_isLetter_X5_isWithin : GoodIn wsX5_isLetter (va_wsS RX5 45 yX5_isWithin wsX5_isWithin) := goodIn_app (goodIn_of _ (by decide +kernel)) ggX5_isLetter_X5_isWithin
theorem dX5_isLetter_0 : decode cX5_isLetter 0 = .ok (.iload_n 1, 1) := by decide +kernel
theorem dX5_isLetter_1 : decode cX5_isLetter 1 = .ok (.iconst 0, 1) := by decide +kernel
theorem dX5_isLetter_2 : decode cX5_isLetter 2 = .ok (.aload_n 0, 1) := by decide +kernel
theorem dX5_isLetter_3 : decode cX5_isLetter 3 = .ok (.getfield 10, 3) := by decide +kernel
theorem dX5_isLetter_6 : decode cX5_isLetter 6 = .ok (.getfield 49, 3) := by decide +kernel
theorem dX5_isLetter_9 : decode cX5_isLetter 9 = .ok (.iconst 1, 1) := by decide +kernel
theorem dX5_isLetter_10 : decode cX5_isLetter 10 = .ok (.isub, 1) := by decide +kernel
theorem dX5_isLetter_11 : decode cX5_isLetter 11 = .ok (.invokestatic 45, 3) := by decide +kernel
theorem dX5_isLetter_14 : decode cX5_isLetter 14 = .ok (.ireturn, 1) := by decide +kernel
set_option maxRecDepth 20000 in
theorem ggX5_isStacker_X5_isWithin : GoodIn wsX5_isStacker wsX5_isWithin := goodIn_r _ [5] (by decide +kernel) (by decide +kernel)
set_option maxRecDepth 20000 in
theorem gX5_isStacker_X5_isWithin : GoodIn wsX5_isStacker (va_wsS RX5 45 yX5_isWithin wsX5_isWithin) := goodIn_app (goodIn_of _ (by decide +kernel)) ggX5_isStacker_X5_isWithin
theorem dX5_isStacker_0 : decode cX5_isStacker 0 = .ok (.iload_n 1, 1) := by decide +kernel
theorem dX5_isStacker_1 : decode cX5_isStacker 1 = .ok (.iconst 0, 1) := by decide +kernel
theorem dX5_isStacker_2 : decode cX5_isStacker 2 = .ok (.aload_n 0, 1) := by decide +kernel
theorem dX5_isStacker_3 : decode cX5_isStacker 3 = .ok (.getfield 10, 3) := by decide +kernel
theorem dX5_isStacker_6 : decode cX5_isStacker 6 = .ok (.getfield 82, 3) := by decide +kernel
theorem dX5_isStacker_9 : decode cX5_isStacker 9 = .ok (.iconst 1, 1) := by decide +kernel
theorem dX5_isStacker_10 : decode cX5_isStacker 10 = .ok (.isub, 1) := by decide +kernel
theorem dX5_isStacker_11 : decode cX5_isStacker 11 = .ok (.invokestatic 45, 3) := by decide +kernel
theorem dX5_isStacker_14 : decode cX5_isStacker 14 = .ok (.ireturn, 1) := by decide +kernel
set_option maxRecDepth 20000 in
theorem ggX5_isPasses_X5_isWithin : GoodIn wsX5_isPasses wsX5_isWithin := goodIn_r _ [4] (by decide +kernel) (by decide +kernel)
set_option maxRecDepth 20000 in
theorem gX5_isPasses_X5_isWithin : GoodIn wsX5_isPasses (va_wsS RX5 45 yX5_isWithin wsX5_isWithin) := goodIn_app (goodIn_of _ (by decide +kernel)) ggX5_isPasses_X5_isWithin
theorem dX5_isPasses_0 : decode cX5_isPasses 0 = .ok (.iload_n 0, 1) := by decide +kernel
theorem dX5_isPasses_1 : decode cX5_isPasses 1 = .ok (.iconst 1, 1) := by decide +kernel
theorem dX5_isPasses_2 : decode cX5_isPasses 2 = .ok (.iconst 3, 1) := by decide +kernel
theorem dX5_isPasses_3 : decode cX5_isPasses 3 = .ok (.invokestatic 45, 3) := by decide +kernel
theorem dX5_isPasses_6 : decode cX5_isPasses 6 = .ok (.ireturn, 1) := by decide +kernel
set_option maxRecDepth 20000 in
theorem ggX5_isImage_X5_isWithin : GoodIn wsX5_isImage wsX5_isWithin := goodIn_r _ [4] (by decide +kernel) (by decide +kernel)
set_option maxRecDepth 20000 in
theorem gX5_isImage_X5_isWithin : GoodIn wsX5_isImage (va_wsS RX5 45 yX5_isWithin wsX5_isWithin) := goodIn_app (goodIn_of _ (by decide +kernel)) ggX5_isImage_X5_isWithin
theorem dX5_isImage_0 : decode cX5_isImage 0 = .ok (.iload_n 0, 1) := by decide +kernel
theorem dX5_isImage_1 : decode cX5_isImage 1 = .ok (.iconst 0, 1) := by decide +kernel
theorem dX5_isImage_2 : decode cX5_isImage 2 = .ok (.iconst 1, 1) := by decide +kernel
theorem dX5_isImage_3 : decode cX5_isImage 3 = .ok (.invokestatic 45, 3) := by decide +kernel
theorem dX5_isImage_6 : decode cX5_isImage 6 = .ok (.ireturn, 1) := by decide +kernel
set_option maxRecDepth 20000 in
theorem ggX5_asksCode_X5_isWithin : GoodIn wsX5_asksCode wsX5_isWithin := goodIn_r _ [4] (by decide +kernel) (by decide +kernel)
set_option maxRecDepth 20000 in
theorem gX5_asksCode_X5_isWithin : GoodIn wsX5_asksCode (va_wsS RX5 45 yX5_isWithin wsX5_isWithin) := goodIn_app (goodIn_of _ (by decide +kernel)) ggX5_asksCode_X5_isWithin
theorem dX5_asksCode_0 : decode cX5_asksCode 0 = .ok (.iload_n 0, 1) := by decide +kernel
theorem dX5_asksCode_1 : decode cX5_asksCode 1 = .ok (.bipush 10, 2) := by decide +kernel
theorem dX5_asksCode_3 : decode cX5_asksCode 3 = .ok (.bipush 19, 2) := by decide +kernel
theorem dX5_asksCode_5 : decode cX5_asksCode 5 = .ok (.invokestatic 45, 3) := by decide +kernel
theorem dX5_asksCode_8 : decode cX5_asksCode 8 = .ok (.ireturn, 1) := by decide +kernel
set_option maxRecDepth 20000 in
theorem ggX5_hasPlanCodes_X5_power : GoodIn wsX5_hasPlanCodes wsX5_power := goodIn_r _ [5] (by decide +kernel) (by decide +kernel)
set_option maxRecDepth 20000 in
theorem gX5_hasPlanCodes_X5_power : GoodIn wsX5_hasPlanCodes (va_wsS RX5 194 yX5_power wsX5_power) := goodIn_app (goodIn_of _ (by decide +kernel)) ggX5_hasPlanCodes_X5_power
theorem dX5_hasPlanCodes_0 : decode cX5_hasPlanCodes 0 = .ok (.aload_n 0, 1) := by decide +kernel
theorem dX5_hasPlanCodes_1 : decode cX5_hasPlanCodes 1 = .ok (.getfield 10, 3) := by decide +kernel
theorem dX5_hasPlanCodes_4 : decode cX5_hasPlanCodes 4 = .ok (.getfield 82, 3) := by decide +kernel
theorem dX5_hasPlanCodes_7 : decode cX5_hasPlanCodes 7 = .ok (.iload_n 1, 1) := by decide +kernel
theorem dX5_hasPlanCodes_8 : decode cX5_hasPlanCodes 8 = .ok (.invokestatic 194, 3) := by decide +kernel
theorem dX5_hasPlanCodes_11 : decode cX5_hasPlanCodes 11 = .ok (.bipush 16, 2) := by decide +kernel
theorem dX5_hasPlanCodes_13 : decode cX5_hasPlanCodes 13 = .ok (.if_icmp .gt 7, 3) := by decide +kernel
theorem dX5_hasPlanCodes_16 : decode cX5_hasPlanCodes 16 = .ok (.iconst 1, 1) := by decide +kernel
theorem dX5_hasPlanCodes_17 : decode cX5_hasPlanCodes 17 = .ok (.goto 4, 3) := by decide +kernel
theorem dX5_hasPlanCodes_20 : decode cX5_hasPlanCodes 20 = .ok (.iconst 0, 1) := by decide +kernel
theorem dX5_hasPlanCodes_21 : decode cX5_hasPlanCodes 21 = .ok (.ireturn, 1) := by decide +kernel
theorem dX5_power_0 : decode cX5_power 0 = .ok (.iconst 1, 1) := by decide +kernel
theorem dX5_power_1 : decode cX5_power 1 = .ok (.istore_n 2, 1) := by decide +kernel
theorem dX5_power_2 : decode cX5_power 2 = .ok (.iconst 0, 1) := by decide +kernel
theorem dX5_power_3 : decode cX5_power 3 = .ok (.istore_n 3, 1) := by decide +kernel
theorem dX5_power_4 : decode cX5_power 4 = .ok (.iload_n 3, 1) := by decide +kernel
theorem dX5_power_5 : decode cX5_power 5 = .ok (.iload_n 1, 1) := by decide +kernel
theorem dX5_power_6 : decode cX5_power 6 = .ok (.if_icmp .ge 13, 3) := by decide +kernel
theorem dX5_power_9 : decode cX5_power 9 = .ok (.iload_n 2, 1) := by decide +kernel
theorem dX5_power_10 : decode cX5_power 10 = .ok (.iload_n 0, 1) := by decide +kernel
theorem dX5_power_11 : decode cX5_power 11 = .ok (.imul, 1) := by decide +kernel
theorem dX5_power_12 : decode cX5_power 12 = .ok (.istore_n 2, 1) := by decide +kernel
theorem dX5_power_13 : decode cX5_power 13 = .ok (.iinc 3 1, 3) := by decide +kernel
theorem dX5_power_16 : decode cX5_power 16 = .ok (.goto (-12), 3) := by decide +kernel
theorem dX5_power_19 : decode cX5_power 19 = .ok (.iload_n 2, 1) := by decide +kernel
theorem dX5_power_20 : decode cX5_power 20 = .ok (.ireturn, 1) := by decide +kernel
theorem dX5_figure_0 : decode cX5_figure 0 = .ok (.iload_n 1, 1) := by decide +kernel
theorem dX5_figure_1 : decode cX5_figure 1 = .ok (.iconst 1, 1) := by decide +kernel
theorem dX5_figure_2 : decode cX5_figure 2 = .ok (.if_icmp .lt 8, 3) := by decide +kernel
theorem dX5_figure_5 : decode cX5_figure 5 = .ok (.iload_n 2, 1) := by decide +kernel
theorem dX5_figure_6 : decode cX5_figure 6 = .ok (.iconst 1, 1) := by decide +kernel
theorem dX5_figure_7 : decode cX5_figure 7 = .ok (.if_icmp .ge 5, 3) := by decide +kernel
theorem dX5_figure_10 : decode cX5_figure 10 = .ok (.iconst 0, 1) := by decide +kernel
theorem dX5_figure_11 : decode cX5_figure 11 = .ok (.ireturn, 1) := by decide +kernel
theorem dX5_figure_12 : decode cX5_figure 12 = .ok (.iload_n 0, 1) := by decide +kernel
theorem dX5_figure_13 : decode cX5_figure 13 = .ok (.iload_n 1, 1) := by decide +kernel
theorem dX5_figure_14 : decode cX5_figure 14 = .ok (.idiv, 1) := by decide +kernel
theorem dX5_figure_15 : decode cX5_figure 15 = .ok (.iload_n 2, 1) := by decide +kernel
theorem dX5_figure_16 : decode cX5_figure 16 = .ok (.irem, 1) := by decide +kernel
theorem dX5_figure_17 : decode cX5_figure 17 = .ok (.ireturn, 1) := by decide +kernel
theorem dX6_init_0 : decode cX6_init 0 = .ok (.aload_n 0, 1) := by decide +kernel
theorem dX6_init_1 : decode cX6_init 1 = .ok (.invokespecial 1, 3) := by decide +kernel
theorem dX6_init_4 : decode cX6_init 4 = .ok (.aload_n 0, 1) := by decide +kernel
theorem dX6_init_5 : decode cX6_init 5 = .ok (.bipush 98, 2) := by decide +kernel
theorem dX6_init_7 : decode cX6_init 7 = .ok (.newarray .int, 2) := by decide +kernel
theorem dX6_init_9 : decode cX6_init 9 = .ok (.putfield 7, 3) := by decide +kernel
theorem dX6_init_12 : decode cX6_init 12 = .ok (.aload_n 0, 1) := by decide +kernel
theorem dX6_init_13 : decode cX6_init 13 = .ok (.sipush 196, 3) := by decide +kernel
theorem dX6_init_16 : decode cX6_init 16 = .ok (.newarray .int, 2) := by decide +kernel
theorem dX6_init_18 : decode cX6_init 18 = .ok (.putfield 13, 3) := by decide +kernel
theorem dX6_init_21 : decode cX6_init 21 = .ok (.aload_n 0, 1) := by decide +kernel
theorem dX6_init_22 : decode cX6_init 22 = .ok (.iconst 2, 1) := by decide +kernel
theorem dX6_init_23 : decode cX6_init 23 = .ok (.newarray .boolean, 2) := by decide +kernel
theorem dX6_init_25 : decode cX6_init 25 = .ok (.putfield 16, 3) := by decide +kernel
theorem dX6_init_28 : decode cX6_init 28 = .ok (.aload_n 0, 1) := by decide +kernel
theorem dX6_init_29 : decode cX6_init 29 = .ok (.bipush 24, 2) := by decide +kernel
theorem dX6_init_31 : decode cX6_init 31 = .ok (.newarray .int, 2) := by decide +kernel
theorem dX6_init_33 : decode cX6_init 33 = .ok (.putfield 20, 3) := by decide +kernel
theorem dX6_init_36 : decode cX6_init 36 = .ok (.aload_n 0, 1) := by decide +kernel
theorem dX6_init_37 : decode cX6_init 37 = .ok (.bipush 24, 2) := by decide +kernel
theorem dX6_init_39 : decode cX6_init 39 = .ok (.newarray .int, 2) := by decide +kernel
theorem dX6_init_41 : decode cX6_init 41 = .ok (.putfield 23, 3) := by decide +kernel
theorem dX6_init_44 : decode cX6_init 44 = .ok (.aload_n 0, 1) := by decide +kernel
theorem dX6_init_45 : decode cX6_init 45 = .ok (.bipush 24, 2) := by decide +kernel
theorem dX6_init_47 : decode cX6_init 47 = .ok (.newarray .int, 2) := by decide +kernel
theorem dX6_init_49 : decode cX6_init 49 = .ok (.putfield 26, 3) := by decide +kernel
theorem dX6_init_52 : decode cX6_init 52 = .ok (.aload_n 0, 1) := by decide +kernel
theorem dX6_init_53 : decode cX6_init 53 = .ok (.bipush 24, 2) := by decide +kernel
theorem dX6_init_55 : decode cX6_init 55 = .ok (.newarray .int, 2) := by decide +kernel
theorem dX6_init_57 : decode cX6_init 57 = .ok (.putfield 29, 3) := by decide +kernel
theorem dX6_init_60 : decode cX6_init 60 = .ok (.aload_n 0, 1) := by decide +kernel
theorem dX6_init_61 : decode cX6_init 61 = .ok (.iconst 4, 1) := by decide +kernel
theorem dX6_init_62 : decode cX6_init 62 = .ok (.newarray .int, 2) := by decide +kernel
theorem dX6_init_64 : decode cX6_init 64 = .ok (.putfield 32, 3) := by decide +kernel
theorem dX6_init_67 : decode cX6_init 67 = .ok (.aload_n 0, 1) := by decide +kernel
theorem dX6_init_68 : decode cX6_init 68 = .ok (.bipush 10, 2) := by decide +kernel
theorem dX6_init_70 : decode cX6_init 70 = .ok (.newarray .int, 2) := by decide +kernel
theorem dX6_init_72 : decode cX6_init 72 = .ok (.putfield 35, 3) := by decide +kernel
theorem dX6_init_75 : decode cX6_init 75 = .ok (.aload_n 0, 1) := by decide +kernel
theorem dX6_init_76 : decode cX6_init 76 = .ok (.iconst 4, 1) := by decide +kernel
theorem dX6_init_77 : decode cX6_init 77 = .ok (.newarray .int, 2) := by decide +kernel
theorem dX6_init_79 : decode cX6_init 79 = .ok (.putfield 38, 3) := by decide +kernel
theorem dX6_init_82 : decode cX6_init 82 = .ok (.iconst 0, 1) := by decide +kernel
theorem dX6_init_83 : decode cX6_init 83 = .ok (.istore_n 1, 1) := by decide +kernel
theorem dX6_init_84 : decode cX6_init 84 = .ok (.iload_n 1, 1) := by decide +kernel
theorem dX6_init_85 : decode cX6_init 85 = .ok (.bipush 10, 2) := by decide +kernel
theorem dX6_init_87 : decode cX6_init 87 = .ok (.if_icmp .ge 18, 3) := by decide +kernel
theorem dX6_init_90 : decode cX6_init 90 = .ok (.aload_n 0, 1) := by decide +kernel
theorem dX6_init_91 : decode cX6_init 91 = .ok (.getfield 7, 3) := by decide +kernel
theorem dX6_init_94 : decode cX6_init 94 = .ok (.iconst 0, 1) := by decide +kernel
theorem dX6_init_95 : decode cX6_init 95 = .ok (.iload_n 1, 1) := by decide +kernel
theorem dX6_init_96 : decode cX6_init 96 = .ok (.iadd, 1) := by decide +kernel
theorem dX6_init_97 : decode cX6_init 97 = .ok (.iload_n 1, 1) := by decide +kernel
theorem dX6_init_98 : decode cX6_init 98 = .ok (.iastore, 1) := by decide +kernel
theorem dX6_init_99 : decode cX6_init 99 = .ok (.iinc 1 1, 3) := by decide +kernel
theorem dX6_init_102 : decode cX6_init 102 = .ok (.goto (-18), 3) := by decide +kernel
theorem dX6_init_105 : decode cX6_init 105 = .ok (.iconst 0, 1) := by decide +kernel
theorem dX6_init_106 : decode cX6_init 106 = .ok (.istore_n 1, 1) := by decide +kernel
theorem dX6_init_107 : decode cX6_init 107 = .ok (.iload_n 1, 1) := by decide +kernel
theorem dX6_init_108 : decode cX6_init 108 = .ok (.iconst 4, 1) := by decide +kernel
theorem dX6_init_109 : decode cX6_init 109 = .ok (.if_icmp .ge 20, 3) := by decide +kernel
theorem dX6_init_112 : decode cX6_init 112 = .ok (.aload_n 0, 1) := by decide +kernel
theorem dX6_init_113 : decode cX6_init 113 = .ok (.getfield 7, 3) := by decide +kernel
theorem dX6_init_116 : decode cX6_init 116 = .ok (.bipush 20, 2) := by decide +kernel
theorem dX6_init_118 : decode cX6_init 118 = .ok (.iload_n 1, 1) := by decide +kernel
theorem dX6_init_119 : decode cX6_init 119 = .ok (.iadd, 1) := by decide +kernel
theorem dX6_init_120 : decode cX6_init 120 = .ok (.bipush 20, 2) := by decide +kernel
theorem dX6_init_122 : decode cX6_init 122 = .ok (.iastore, 1) := by decide +kernel
theorem dX6_init_123 : decode cX6_init 123 = .ok (.iinc 1 1, 3) := by decide +kernel
theorem dX6_init_126 : decode cX6_init 126 = .ok (.goto (-19), 3) := by decide +kernel
theorem dX6_init_129 : decode cX6_init 129 = .ok (.aload_n 0, 1) := by decide +kernel
theorem dX6_init_130 : decode cX6_init 130 = .ok (.getfield 7, 3) := by decide +kernel
theorem dX6_init_133 : decode cX6_init 133 = .ok (.bipush 24, 2) := by decide +kernel
theorem dX6_init_135 : decode cX6_init 135 = .ok (.iconst 3, 1) := by decide +kernel
theorem dX6_init_136 : decode cX6_init 136 = .ok (.iastore, 1) := by decide +kernel
theorem dX6_init_137 : decode cX6_init 137 = .ok (.return_, 1) := by decide +kernel
theorem dX6_in_0 : decode cX6_in 0 = .ok (.iload_n 0, 1) := by decide +kernel
theorem dX6_in_1 : decode cX6_in 1 = .ok (.iload_n 1, 1) := by decide +kernel
theorem dX6_in_2 : decode cX6_in 2 = .ok (.if_icmp .lt 12, 3) := by decide +kernel
theorem dX6_in_5 : decode cX6_in 5 = .ok (.iload_n 0, 1) := by decide +kernel
theorem dX6_in_6 : decode cX6_in 6 = .ok (.iload_n 2, 1) := by decide +kernel
theorem dX6_in_7 : decode cX6_in 7 = .ok (.if_icmp .gt 7, 3) := by decide +kernel
theorem dX6_in_10 : decode cX6_in 10 = .ok (.iconst 1, 1) := by decide +kernel
theorem dX6_in_11 : decode cX6_in 11 = .ok (.goto 4, 3) := by decide +kernel
theorem dX6_in_14 : decode cX6_in 14 = .ok (.iconst 0, 1) := by decide +kernel
theorem dX6_in_15 : decode cX6_in 15 = .ok (.ireturn, 1) := by decide +kernel
set_option maxRecDepth 20000 in
theorem ggX6_isPoint_X6_in : GoodIn wsX6_isPoint wsX6_in := goodIn_r _ [4] (by decide +kernel) (by decide +kernel)
set_option maxRecDepth 20000 in
theorem gX6_isPoint_X6_in : GoodIn wsX6_isPoint (va_wsS RX6 41 yX6_in wsX6_in) := goodIn_app (goodIn_of _ (by decide +kernel)) ggX6_isPoint_X6_in
theorem dX6_isPoint_0 : decode cX6_isPoint 0 = .ok (.iload_n 0, 1) := by decide +kernel
theorem dX6_isPoint_1 : decode cX6_isPoint 1 = .ok (.iconst 0, 1) := by decide +kernel
theorem dX6_isPoint_2 : decode cX6_isPoint 2 = .ok (.bipush 9, 2) := by decide +kernel
theorem dX6_isPoint_4 : decode cX6_isPoint 4 = .ok (.invokestatic 41, 3) := by decide +kernel
theorem dX6_isPoint_7 : decode cX6_isPoint 7 = .ok (.ireturn, 1) := by decide +kernel
set_option maxRecDepth 20000 in
theorem ggX6_isLetter_X6_in : GoodIn wsX6_isLetter wsX6_in := goodIn_r _ [5] (by decide +kernel) (by decide +kernel)
set_option maxRecDepth 20000 in
theorem gX6_isLetter_X6_in : GoodIn wsX6_isLetter (va_wsS RX6 41 yX6_in wsX6_in) := goodIn_app (goodIn_of _ (by decide +kernel)) ggX6_isLetter_X6_in
theorem dX6_isLetter_0 : decode cX6_isLetter 0 = .ok (.iload_n 1, 1) := by decide +kernel
theorem dX6_isLetter_1 : decode cX6_isLetter 1 = .ok (.iconst 0, 1) := by decide +kernel
theorem dX6_isLetter_2 : decode cX6_isLetter 2 = .ok (.aload_n 0, 1) := by decide +kernel
theorem dX6_isLetter_3 : decode cX6_isLetter 3 = .ok (.getfield 7, 3) := by decide +kernel
theorem dX6_isLetter_6 : decode cX6_isLetter 6 = .ok (.bipush 25, 2) := by decide +kernel
theorem dX6_isLetter_8 : decode cX6_isLetter 8 = .ok (.iaload, 1) := by decide +kernel
theorem dX6_isLetter_9 : decode cX6_isLetter 9 = .ok (.iconst 1, 1) := by decide +kernel
theorem dX6_isLetter_10 : decode cX6_isLetter 10 = .ok (.isub, 1) := by decide +kernel
theorem dX6_isLetter_11 : decode cX6_isLetter 11 = .ok (.invokestatic 41, 3) := by decide +kernel
theorem dX6_isLetter_14 : decode cX6_isLetter 14 = .ok (.ireturn, 1) := by decide +kernel
set_option maxRecDepth 20000 in
theorem ggX6_isStacker_X6_in : GoodIn wsX6_isStacker wsX6_in := goodIn_r _ [5] (by decide +kernel) (by decide +kernel)
set_option maxRecDepth 20000 in
theorem gX6_isStacker_X6_in : GoodIn wsX6_isStacker (va_wsS RX6 41 yX6_in wsX6_in) := goodIn_app (goodIn_of _ (by decide +kernel)) ggX6_isStacker_X6_in
theorem dX6_isStacker_0 : decode cX6_isStacker 0 = .ok (.iload_n 1, 1) := by decide +kernel
theorem dX6_isStacker_1 : decode cX6_isStacker 1 = .ok (.iconst 0, 1) := by decide +kernel
theorem dX6_isStacker_2 : decode cX6_isStacker 2 = .ok (.aload_n 0, 1) := by decide +kernel
theorem dX6_isStacker_3 : decode cX6_isStacker 3 = .ok (.getfield 7, 3) := by decide +kernel
theorem dX6_isStacker_6 : decode cX6_isStacker 6 = .ok (.bipush 24, 2) := by decide +kernel
theorem dX6_isStacker_8 : decode cX6_isStacker 8 = .ok (.iaload, 1) := by decide +kernel
theorem dX6_isStacker_9 : decode cX6_isStacker 9 = .ok (.iconst 1, 1) := by decide +kernel
theorem dX6_isStacker_10 : decode cX6_isStacker 10 = .ok (.isub, 1) := by decide +kernel
theorem dX6_isStacker_11 : decode cX6_isStacker 11 = .ok (.invokestatic 41, 3) := by decide +kernel
theorem dX6_isStacker_14 : decode cX6_isStacker 14 = .ok (.ireturn, 1) := by decide +kernel
set_option maxRecDepth 20000 in
theorem ggX6_isRun_X6_in : GoodIn wsX6_isRun wsX6_in := goodIn_r _ [4] (by decide +kernel) (by decide +kernel)
set_option maxRecDepth 20000 in
theorem gX6_isRun_X6_in : GoodIn wsX6_isRun (va_wsS RX6 41 yX6_in wsX6_in) := goodIn_app (goodIn_of _ (by decide +kernel)) ggX6_isRun_X6_in
theorem dX6_isRun_0 : decode cX6_isRun 0 = .ok (.iload_n 0, 1) := by decide +kernel
theorem dX6_isRun_1 : decode cX6_isRun 1 = .ok (.iconst 1, 1) := by decide +kernel
theorem dX6_isRun_2 : decode cX6_isRun 2 = .ok (.iconst 3, 1) := by decide +kernel
theorem dX6_isRun_3 : decode cX6_isRun 3 = .ok (.invokestatic 41, 3) := by decide +kernel
