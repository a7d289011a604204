theorem dX8_measure_65 : decode cX8_measure 65 = .ok (.istore 4, 2) := by decide +kernel
theorem dX8_measure_67 : decode cX8_measure 67 = .ok (.iload_n 3, 1) := by decide +kernel
theorem dX8_measure_68 : decode cX8_measure 68 = .ok (.aload_n 0, 1) := by decide +kernel
theorem dX8_measure_69 : decode cX8_measure 69 = .ok (.getfield 41, 3) := by decide +kernel
theorem dX8_measure_72 : decode cX8_measure 72 = .ok (.if_icmp .gt 48, 3) := by decide +kernel
theorem dX8_measure_75 : decode cX8_measure 75 = .ok (.iload 4, 2) := by decide +kernel
theorem dX8_measure_77 : decode cX8_measure 77 = .ok (.aload_n 0, 1) := by decide +kernel
theorem dX8_measure_78 : decode cX8_measure 78 = .ok (.getfield 41, 3) := by decide +kernel
theorem dX8_measure_81 : decode cX8_measure 81 = .ok (.if_icmp .gt 39, 3) := by decide +kernel
theorem dX8_measure_84 : decode cX8_measure 84 = .ok (.aload_n 0, 1) := by decide +kernel
theorem dX8_measure_85 : decode cX8_measure 85 = .ok (.getfield 29, 3) := by decide +kernel
theorem dX8_measure_88 : decode cX8_measure 88 = .ok (.iload_n 3, 1) := by decide +kernel
theorem dX8_measure_89 : decode cX8_measure 89 = .ok (.iaload, 1) := by decide +kernel
theorem dX8_measure_90 : decode cX8_measure 90 = .ok (.aload_n 0, 1) := by decide +kernel
theorem dX8_measure_91 : decode cX8_measure 91 = .ok (.getfield 29, 3) := by decide +kernel
theorem dX8_measure_94 : decode cX8_measure 94 = .ok (.iload 4, 2) := by decide +kernel
theorem dX8_measure_96 : decode cX8_measure 96 = .ok (.iaload, 1) := by decide +kernel
theorem dX8_measure_97 : decode cX8_measure 97 = .ok (.if_icmp .le 23, 3) := by decide +kernel
theorem dX8_measure_100 : decode cX8_measure 100 = .ok (.aload_n 0, 1) := by decide +kernel
theorem dX8_measure_101 : decode cX8_measure 101 = .ok (.getfield 32, 3) := by decide +kernel
theorem dX8_measure_104 : decode cX8_measure 104 = .ok (.aload_n 0, 1) := by decide +kernel
theorem dX8_measure_105 : decode cX8_measure 105 = .ok (.getfield 29, 3) := by decide +kernel
theorem dX8_measure_108 : decode cX8_measure 108 = .ok (.iload_n 3, 1) := by decide +kernel
theorem dX8_measure_109 : decode cX8_measure 109 = .ok (.iaload, 1) := by decide +kernel
theorem dX8_measure_110 : decode cX8_measure 110 = .ok (.aload_n 0, 1) := by decide +kernel
theorem dX8_measure_111 : decode cX8_measure 111 = .ok (.getfield 29, 3) := by decide +kernel
theorem dX8_measure_114 : decode cX8_measure 114 = .ok (.iload 4, 2) := by decide +kernel
theorem dX8_measure_116 : decode cX8_measure 116 = .ok (.iaload, 1) := by decide +kernel
theorem dX8_measure_117 : decode cX8_measure 117 = .ok (.isub, 1) := by decide +kernel
theorem dX8_measure_118 : decode cX8_measure 118 = .ok (.iconst 1, 1) := by decide +kernel
theorem dX8_measure_119 : decode cX8_measure 119 = .ok (.bastore, 1) := by decide +kernel
theorem dX8_measure_120 : decode cX8_measure 120 = .ok (.iinc 2 1, 3) := by decide +kernel
theorem dX8_measure_123 : decode cX8_measure 123 = .ok (.goto (-73), 3) := by decide +kernel
theorem dX8_measure_126 : decode cX8_measure 126 = .ok (.iinc 1 1, 3) := by decide +kernel
theorem dX8_measure_129 : decode cX8_measure 129 = .ok (.goto (-105), 3) := by decide +kernel
theorem dX8_measure_132 : decode cX8_measure 132 = .ok (.return_, 1) := by decide +kernel
set_option maxRecDepth 20000 in
theorem ggX8_gap_X8_measure : GoodIn wsX8_gap wsX8_measure := goodIn_r _ [6, 1, 7, 8, 9, 10, 11, 5, 12, 13, 14, 15, 16, 17, 18, 19, 20, 21, 22, 23, 24, 25, 26, 27, 28, 29, 30, 31, 32, 33, 34, 35, 36, 37, 38, 39, 40, 41, 42, 43, 44, 45, 46, 47, 48, 49] (by decide +kernel) (by decide +kernel)
set_option maxRecDepth 20000 in
theorem gX8_gap_X8_measure : GoodIn wsX8_gap (wsV RX8 143 RX8 yX8_measure wsX8_measure) := goodIn_app (goodIn_of _ (by decide +kernel)) ggX8_gap_X8_measure
theorem dX8_gap_0 : decode cX8_gap 0 = .ok (.aload_n 0, 1) := by decide +kernel
theorem dX8_gap_1 : decode cX8_gap 1 = .ok (.invokevirtual 143, 3) := by decide +kernel
theorem dX8_gap_4 : decode cX8_gap 4 = .ok (.iconst 1, 1) := by decide +kernel
theorem dX8_gap_5 : decode cX8_gap 5 = .ok (.istore_n 1, 1) := by decide +kernel
theorem dX8_gap_6 : decode cX8_gap 6 = .ok (.aload_n 0, 1) := by decide +kernel
theorem dX8_gap_7 : decode cX8_gap 7 = .ok (.getfield 32, 3) := by decide +kernel
theorem dX8_gap_10 : decode cX8_gap 10 = .ok (.iload_n 1, 1) := by decide +kernel
theorem dX8_gap_11 : decode cX8_gap 11 = .ok (.baload, 1) := by decide +kernel
theorem dX8_gap_12 : decode cX8_gap 12 = .ok (.ifCond .eq 9, 3) := by decide +kernel
theorem dX8_gap_15 : decode cX8_gap 15 = .ok (.iinc 1 1, 3) := by decide +kernel
theorem dX8_gap_18 : decode cX8_gap 18 = .ok (.goto (-12), 3) := by decide +kernel
theorem dX8_gap_21 : decode cX8_gap 21 = .ok (.iload_n 1, 1) := by decide +kernel
theorem dX8_gap_22 : decode cX8_gap 22 = .ok (.ireturn, 1) := by decide +kernel
set_option maxRecDepth 20000 in
theorem ggX8_now_X8_spanBy : GoodIn wsX8_now wsX8_spanBy := goodIn_r _ [7, 8, 9, 10, 6, 11, 12, 13, 1, 14, 15, 16, 17, 18, 19, 20, 21, 22, 23, 24, 63, 64, 65, 66, 67, 68, 69, 70, 71, 72, 73, 74, 75, 76, 77, 78, 79, 80, 81, 82, 83, 84] (by decide +kernel) (by decide +kernel)
set_option maxRecDepth 20000 in
theorem gX8_now_X8_spanBy : GoodIn wsX8_now (wsV RX8 118 RX8 yX8_spanBy wsX8_spanBy) := goodIn_app (goodIn_of _ (by decide +kernel)) ggX8_now_X8_spanBy
set_option maxRecDepth 20000 in
theorem ggX8_now_X8_stack : GoodIn wsX8_now wsX8_stack := goodIn_r _ [28, 1, 13, 3, 4, 5, 6, 7, 8, 9, 10, 11, 12, 14, 15, 16, 17, 18, 19, 20, 21, 22, 23, 24, 29, 30, 31, 32, 63, 64, 65, 66, 67, 68, 69, 70, 71, 72, 73, 74, 75, 76, 77, 78, 79, 80, 81, 82, 83, 84] (by decide +kernel) (by decide +kernel)
set_option maxRecDepth 20000 in
theorem gX8_now_X8_stack : GoodIn wsX8_now (wsV RX8 146 RX8 yX8_stack wsX8_stack) := goodIn_app (goodIn_of _ (by decide +kernel)) ggX8_now_X8_stack
set_option maxRecDepth 20000 in
theorem ggX8_now_X8_leastFold : GoodIn wsX8_now wsX8_leastFold := goodIn_r _ [36, 37, 38, 39, 40, 6, 41, 13, 42, 43, 44, 45, 1, 46, 47, 48, 3, 4, 5, 7, 8, 9, 10, 11, 12, 14, 15, 16, 17, 18, 19, 20, 21, 22, 23, 24, 63, 64, 65, 66, 67, 68, 69, 70, 71, 72, 73, 74, 75, 76, 77, 78, 79, 80, 81, 82, 83, 84] (by decide +kernel) (by decide +kernel)
set_option maxRecDepth 20000 in
theorem gX8_now_X8_leastFold : GoodIn wsX8_now (wsV RX8 149 RX8 yX8_leastFold wsX8_leastFold) := goodIn_app (goodIn_of _ (by decide +kernel)) ggX8_now_X8_leastFold
set_option maxRecDepth 20000 in
theorem ggX8_now_X8_mostEnd : GoodIn wsX8_now wsX8_mostEnd := goodIn_r _ [52, 53, 12, 13, 38, 39, 40, 6, 41, 42, 43, 44, 45, 1, 46, 47, 48, 8, 9, 10, 11, 14, 15, 16, 63, 64, 65, 66, 67, 68, 69, 70, 71, 72, 73, 74, 75, 76, 77, 78, 79, 80, 81, 82, 83, 84] (by decide +kernel) (by decide +kernel)
set_option maxRecDepth 20000 in
theorem gX8_now_X8_mostEnd : GoodIn wsX8_now (wsV RX8 152 RX8 yX8_mostEnd wsX8_mostEnd) := goodIn_app (goodIn_of _ (by decide +kernel)) ggX8_now_X8_mostEnd
set_option maxRecDepth 20000 in
theorem ggX8_now_X8_gap : GoodIn wsX8_now wsX8_gap := goodIn_r _ [57, 58, 59, 60, 61, 6, 62, 13, 12, 38, 39, 40, 41, 42, 43, 44, 45, 1, 46, 47, 48, 8, 9, 10, 11, 14, 15, 16, 63, 64, 65, 66, 67, 68, 69, 70, 71, 72, 73, 74, 75, 76, 77, 78, 79, 80, 81, 82, 83, 84] (by decide +kernel) (by decide +kernel)
set_option maxRecDepth 20000 in
theorem gX8_now_X8_gap : GoodIn wsX8_now (wsV RX8 155 RX8 yX8_gap wsX8_gap) := goodIn_app (goodIn_of _ (by decide +kernel)) ggX8_now_X8_gap
theorem dX8_now_0 : decode cX8_now 0 = .ok (.iload_n 1, 1) := by decide +kernel
theorem dX8_now_1 : decode cX8_now 1 = .ok (.tableswitch 101 0 7 #[47, 59, 64, 72, 81, 86, 91, 96], 47) := by decide +kernel
theorem dX8_now_48 : decode cX8_now 48 = .ok (.aload_n 0, 1) := by decide +kernel
theorem dX8_now_49 : decode cX8_now 49 = .ok (.aload_n 0, 1) := by decide +kernel
theorem dX8_now_50 : decode cX8_now 50 = .ok (.getfield 7, 3) := by decide +kernel
theorem dX8_now_53 : decode cX8_now 53 = .ok (.bipush 9, 2) := by decide +kernel
theorem dX8_now_55 : decode cX8_now 55 = .ok (.iaload, 1) := by decide +kernel
theorem dX8_now_56 : decode cX8_now 56 = .ok (.invokevirtual 118, 3) := by decide +kernel
theorem dX8_now_59 : decode cX8_now 59 = .ok (.ireturn, 1) := by decide +kernel
theorem dX8_now_60 : decode cX8_now 60 = .ok (.aload_n 0, 1) := by decide +kernel
theorem dX8_now_61 : decode cX8_now 61 = .ok (.invokevirtual 146, 3) := by decide +kernel
theorem dX8_now_64 : decode cX8_now 64 = .ok (.ireturn, 1) := by decide +kernel
theorem dX8_now_65 : decode cX8_now 65 = .ok (.aload_n 0, 1) := by decide +kernel
theorem dX8_now_66 : decode cX8_now 66 = .ok (.getfield 7, 3) := by decide +kernel
theorem dX8_now_69 : decode cX8_now 69 = .ok (.bipush 9, 2) := by decide +kernel
theorem dX8_now_71 : decode cX8_now 71 = .ok (.iaload, 1) := by decide +kernel
theorem dX8_now_72 : decode cX8_now 72 = .ok (.ireturn, 1) := by decide +kernel
theorem dX8_now_73 : decode cX8_now 73 = .ok (.aload_n 0, 1) := by decide +kernel
theorem dX8_now_74 : decode cX8_now 74 = .ok (.aload_n 0, 1) := by decide +kernel
theorem dX8_now_75 : decode cX8_now 75 = .ok (.invokevirtual 149, 3) := by decide +kernel
theorem dX8_now_78 : decode cX8_now 78 = .ok (.invokevirtual 118, 3) := by decide +kernel
theorem dX8_now_81 : decode cX8_now 81 = .ok (.ireturn, 1) := by decide +kernel
theorem dX8_now_82 : decode cX8_now 82 = .ok (.aload_n 0, 1) := by decide +kernel
theorem dX8_now_83 : decode cX8_now 83 = .ok (.invokevirtual 149, 3) := by decide +kernel
theorem dX8_now_86 : decode cX8_now 86 = .ok (.ireturn, 1) := by decide +kernel
theorem dX8_now_87 : decode cX8_now 87 = .ok (.aload_n 0, 1) := by decide +kernel
theorem dX8_now_88 : decode cX8_now 88 = .ok (.invokevirtual 152, 3) := by decide +kernel
theorem dX8_now_91 : decode cX8_now 91 = .ok (.ireturn, 1) := by decide +kernel
theorem dX8_now_92 : decode cX8_now 92 = .ok (.aload_n 0, 1) := by decide +kernel
theorem dX8_now_93 : decode cX8_now 93 = .ok (.invokevirtual 155, 3) := by decide +kernel
theorem dX8_now_96 : decode cX8_now 96 = .ok (.ireturn, 1) := by decide +kernel
theorem dX8_now_97 : decode cX8_now 97 = .ok (.aload_n 0, 1) := by decide +kernel
theorem dX8_now_98 : decode cX8_now 98 = .ok (.getfield 102, 3) := by decide +kernel
theorem dX8_now_101 : decode cX8_now 101 = .ok (.ireturn, 1) := by decide +kernel
theorem dX8_now_102 : decode cX8_now 102 = .ok (.iconst (-1), 1) := by decide +kernel
theorem dX8_now_103 : decode cX8_now 103 = .ok (.ireturn, 1) := by decide +kernel
set_option maxRecDepth 20000 in
theorem ggX8_keepPast_X8_copyRow : GoodIn wsX8_keepPast wsX8_copyRow := goodIn_r _ [7, 2, 8, 9, 10, 11, 12, 13, 14, 15, 16, 17, 18, 19, 20, 21, 22, 23, 24, 25, 26, 27, 28, 29] (by decide +kernel) (by decide +kernel)
set_option maxRecDepth 20000 in
theorem gX8_keepPast_X8_copyRow : GoodIn wsX8_keepPast (wsV RX8 158 RX8 yX8_copyRow wsX8_copyRow) := goodIn_app (goodIn_of _ (by decide +kernel)) ggX8_keepPast_X8_copyRow
theorem dX8_keepPast_0 : decode cX8_keepPast 0 = .ok (.aload_n 0, 1) := by decide +kernel
theorem dX8_keepPast_1 : decode cX8_keepPast 1 = .ok (.getfield 102, 3) := by decide +kernel
theorem dX8_keepPast_4 : decode cX8_keepPast 4 = .ok (.bipush 10, 2) := by decide +kernel
theorem dX8_keepPast_6 : decode cX8_keepPast 6 = .ok (.if_icmp .ne 45, 3) := by decide +kernel
theorem dX8_keepPast_9 : decode cX8_keepPast 9 = .ok (.iconst 0, 1) := by decide +kernel
theorem dX8_keepPast_10 : decode cX8_keepPast 10 = .ok (.istore_n 1, 1) := by decide +kernel
theorem dX8_keepPast_11 : decode cX8_keepPast 11 = .ok (.iload_n 1, 1) := by decide +kernel
theorem dX8_keepPast_12 : decode cX8_keepPast 12 = .ok (.bipush 99, 2) := by decide +kernel
theorem dX8_keepPast_14 : decode cX8_keepPast 14 = .ok (.if_icmp .ge 27, 3) := by decide +kernel
theorem dX8_keepPast_17 : decode cX8_keepPast 17 = .ok (.aload_n 0, 1) := by decide +kernel
theorem dX8_keepPast_18 : decode cX8_keepPast 18 = .ok (.getfield 7, 3) := by decide +kernel
theorem dX8_keepPast_21 : decode cX8_keepPast 21 = .ok (.bipush 11, 2) := by decide +kernel
theorem dX8_keepPast_23 : decode cX8_keepPast 23 = .ok (.iload_n 1, 1) := by decide +kernel
theorem dX8_keepPast_24 : decode cX8_keepPast 24 = .ok (.iadd, 1) := by decide +kernel
theorem dX8_keepPast_25 : decode cX8_keepPast 25 = .ok (.aload_n 0, 1) := by decide +kernel
theorem dX8_keepPast_26 : decode cX8_keepPast 26 = .ok (.getfield 7, 3) := by decide +kernel
theorem dX8_keepPast_29 : decode cX8_keepPast 29 = .ok (.bipush 22, 2) := by decide +kernel
theorem dX8_keepPast_31 : decode cX8_keepPast 31 = .ok (.iload_n 1, 1) := by decide +kernel
theorem dX8_keepPast_32 : decode cX8_keepPast 32 = .ok (.iadd, 1) := by decide +kernel
theorem dX8_keepPast_33 : decode cX8_keepPast 33 = .ok (.iaload, 1) := by decide +kernel
theorem dX8_keepPast_34 : decode cX8_keepPast 34 = .ok (.iastore, 1) := by decide +kernel
theorem dX8_keepPast_35 : decode cX8_keepPast 35 = .ok (.iinc 1 1, 3) := by decide +kernel
theorem dX8_keepPast_38 : decode cX8_keepPast 38 = .ok (.goto (-27), 3) := by decide +kernel
theorem dX8_keepPast_41 : decode cX8_keepPast 41 = .ok (.aload_n 0, 1) := by decide +kernel
theorem dX8_keepPast_42 : decode cX8_keepPast 42 = .ok (.dup, 1) := by decide +kernel
theorem dX8_keepPast_43 : decode cX8_keepPast 43 = .ok (.getfield 102, 3) := by decide +kernel
theorem dX8_keepPast_46 : decode cX8_keepPast 46 = .ok (.iconst 1, 1) := by decide +kernel
theorem dX8_keepPast_47 : decode cX8_keepPast 47 = .ok (.isub, 1) := by decide +kernel
theorem dX8_keepPast_48 : decode cX8_keepPast 48 = .ok (.putfield 102, 3) := by decide +kernel
theorem dX8_keepPast_51 : decode cX8_keepPast 51 = .ok (.aload_n 0, 1) := by decide +kernel
theorem dX8_keepPast_52 : decode cX8_keepPast 52 = .ok (.iconst 0, 1) := by decide +kernel
theorem dX8_keepPast_53 : decode cX8_keepPast 53 = .ok (.bipush 11, 2) := by decide +kernel
theorem dX8_keepPast_55 : decode cX8_keepPast 55 = .ok (.bipush 11, 2) := by decide +kernel
theorem dX8_keepPast_57 : decode cX8_keepPast 57 = .ok (.aload_n 0, 1) := by decide +kernel
theorem dX8_keepPast_58 : decode cX8_keepPast 58 = .ok (.getfield 102, 3) := by decide +kernel
theorem dX8_keepPast_61 : decode cX8_keepPast 61 = .ok (.imul, 1) := by decide +kernel
theorem dX8_keepPast_62 : decode cX8_keepPast 62 = .ok (.iadd, 1) := by decide +kernel
theorem dX8_keepPast_63 : decode cX8_keepPast 63 = .ok (.invokevirtual 158, 3) := by decide +kernel
theorem dX8_keepPast_66 : decode cX8_keepPast 66 = .ok (.aload_n 0, 1) := by decide +kernel
theorem dX8_keepPast_67 : decode cX8_keepPast 67 = .ok (.dup, 1) := by decide +kernel
theorem dX8_keepPast_68 : decode cX8_keepPast 68 = .ok (.getfield 102, 3) := by decide +kernel
theorem dX8_keepPast_71 : decode cX8_keepPast 71 = .ok (.iconst 1, 1) := by decide +kernel
theorem dX8_keepPast_72 : decode cX8_keepPast 72 = .ok (.iadd, 1) := by decide +kernel
theorem dX8_keepPast_73 : decode cX8_keepPast 73 = .ok (.putfield 102, 3) := by decide +kernel
theorem dX8_keepPast_76 : decode cX8_keepPast 76 = .ok (.return_, 1) := by decide +kernel
set_option maxRecDepth 20000 in
theorem ggX8_bends_X8_isJoint : GoodIn wsX8_bends wsX8_isJoint := goodIn_r _ [6, 7, 8, 9, 5, 10, 40, 41, 42, 43, 44, 45, 46, 47, 48, 49, 50, 51, 52, 53, 54, 55, 56, 57, 58, 59, 60, 61] (by decide +kernel) (by decide +kernel)
set_option maxRecDepth 20000 in
theorem gX8_bends_X8_isJoint : GoodIn wsX8_bends (wsV RX8 131 RX8 yX8_isJoint wsX8_isJoint) := goodIn_app (goodIn_of _ (by decide +kernel)) ggX8_bends_X8_isJoint
set_option maxRecDepth 20000 in
theorem ggX8_bends_X8_has : GoodIn wsX8_bends wsX8_has := goodIn_r _ [13] (by decide +kernel) (by decide +kernel)
set_option maxRecDepth 20000 in
theorem gX8_bends_X8_has : GoodIn wsX8_bends (va_wsS RX8 81 yX8_has wsX8_has) := goodIn_app (goodIn_of _ (by decide +kernel)) ggX8_bends_X8_has
set_option maxRecDepth 20000 in
theorem ggX8_bends_X8_keepPast : GoodIn wsX8_bends wsX8_keepPast := goodIn_r _ [17, 18, 1, 19, 20, 21, 5, 22, 40, 41, 42, 43, 44, 45, 46, 47, 48, 49, 50, 51, 52, 53, 54, 55, 56, 57, 58, 59, 60, 61] (by decide +kernel) (by decide +kernel)
set_option maxRecDepth 20000 in
theorem gX8_bends_X8_keepPast : GoodIn wsX8_bends (wsV RX8 162 RX8 yX8_keepPast wsX8_keepPast) := goodIn_app (goodIn_of _ (by decide +kernel)) ggX8_bends_X8_keepPast
set_option maxRecDepth 20000 in
theorem ggX8_bends_X8_spanBy : GoodIn wsX8_bends wsX8_spanBy := goodIn_r _ [26, 27, 28, 29, 5, 30, 31, 7, 1, 11, 12, 13, 32, 33, 34, 35, 36, 37, 38, 39, 40, 41, 42, 43, 44, 45, 46, 47, 48, 49, 50, 51, 52, 53, 54, 55, 56, 57, 58, 59, 60, 61] (by decide +kernel) (by decide +kernel)
set_option maxRecDepth 20000 in
theorem gX8_bends_X8_spanBy : GoodIn wsX8_bends (wsV RX8 118 RX8 yX8_spanBy wsX8_spanBy) := goodIn_app (goodIn_of _ (by decide +kernel)) ggX8_bends_X8_spanBy
theorem dX8_bends_0 : decode cX8_bends 0 = .ok (.aload_n 0, 1) := by decide +kernel
theorem dX8_bends_1 : decode cX8_bends 1 = .ok (.iload_n 1, 1) := by decide +kernel
theorem dX8_bends_2 : decode cX8_bends 2 = .ok (.invokevirtual 131, 3) := by decide +kernel
theorem dX8_bends_5 : decode cX8_bends 5 = .ok (.ifCond .ne 5, 3) := by decide +kernel
theorem dX8_bends_8 : decode cX8_bends 8 = .ok (.iconst (-1), 1) := by decide +kernel
theorem dX8_bends_9 : decode cX8_bends 9 = .ok (.ireturn, 1) := by decide +kernel
theorem dX8_bends_10 : decode cX8_bends 10 = .ok (.aload_n 0, 1) := by decide +kernel
theorem dX8_bends_11 : decode cX8_bends 11 = .ok (.getfield 7, 3) := by decide +kernel
theorem dX8_bends_14 : decode cX8_bends 14 = .ok (.bipush 10, 2) := by decide +kernel
theorem dX8_bends_16 : decode cX8_bends 16 = .ok (.iaload, 1) := by decide +kernel
theorem dX8_bends_17 : decode cX8_bends 17 = .ok (.iload_n 1, 1) := by decide +kernel
theorem dX8_bends_18 : decode cX8_bends 18 = .ok (.invokestatic 81, 3) := by decide +kernel
theorem dX8_bends_21 : decode cX8_bends 21 = .ok (.ifCond .eq 6, 3) := by decide +kernel
theorem dX8_bends_24 : decode cX8_bends 24 = .ok (.bipush (-2), 2) := by decide +kernel
theorem dX8_bends_26 : decode cX8_bends 26 = .ok (.ireturn, 1) := by decide +kernel
theorem dX8_bends_27 : decode cX8_bends 27 = .ok (.aload_n 0, 1) := by decide +kernel
theorem dX8_bends_28 : decode cX8_bends 28 = .ok (.invokevirtual 162, 3) := by decide +kernel
theorem dX8_bends_31 : decode cX8_bends 31 = .ok (.aload_n 0, 1) := by decide +kernel
theorem dX8_bends_32 : decode cX8_bends 32 = .ok (.getfield 7, 3) := by decide +kernel
theorem dX8_bends_35 : decode cX8_bends 35 = .ok (.bipush 9, 2) := by decide +kernel
theorem dX8_bends_37 : decode cX8_bends 37 = .ok (.dup2, 1) := by decide +kernel
theorem dX8_bends_38 : decode cX8_bends 38 = .ok (.iaload, 1) := by decide +kernel
theorem dX8_bends_39 : decode cX8_bends 39 = .ok (.iconst 1, 1) := by decide +kernel
theorem dX8_bends_40 : decode cX8_bends 40 = .ok (.iload_n 1, 1) := by decide +kernel
theorem dX8_bends_41 : decode cX8_bends 41 = .ok (.ishl, 1) := by decide +kernel
theorem dX8_bends_42 : decode cX8_bends 42 = .ok (.ixor, 1) := by decide +kernel
theorem dX8_bends_43 : decode cX8_bends 43 = .ok (.iastore, 1) := by decide +kernel
theorem dX8_bends_44 : decode cX8_bends 44 = .ok (.aload_n 0, 1) := by decide +kernel
theorem dX8_bends_45 : decode cX8_bends 45 = .ok (.aload_n 0, 1) := by decide +kernel
theorem dX8_bends_46 : decode cX8_bends 46 = .ok (.getfield 7, 3) := by decide +kernel
theorem dX8_bends_49 : decode cX8_bends 49 = .ok (.bipush 9, 2) := by decide +kernel
theorem dX8_bends_51 : decode cX8_bends 51 = .ok (.iaload, 1) := by decide +kernel
theorem dX8_bends_52 : decode cX8_bends 52 = .ok (.invokevirtual 118, 3) := by decide +kernel
theorem dX8_bends_55 : decode cX8_bends 55 = .ok (.ireturn, 1) := by decide +kernel
set_option maxRecDepth 20000 in
theorem ggX8_files_X8_isLink : GoodIn wsX8_files wsX8_isLink := goodIn_r _ [6, 7, 8, 9, 5, 10, 20, 21, 22, 23, 24, 25, 26, 27, 28, 29, 30, 31, 32, 33, 34, 35, 36, 37, 38, 39, 40, 41] (by decide +kernel) (by decide +kernel)
set_option maxRecDepth 20000 in
theorem gX8_files_X8_isLink : GoodIn wsX8_files (wsV RX8 125 RX8 yX8_isLink wsX8_isLink) := goodIn_app (goodIn_of _ (by decide +kernel)) ggX8_files_X8_isLink
set_option maxRecDepth 20000 in
theorem ggX8_files_X8_in : GoodIn wsX8_files wsX8_in := goodIn_r _ [10] (by decide +kernel) (by decide +kernel)
set_option maxRecDepth 20000 in
theorem gX8_files_X8_in : GoodIn wsX8_files (va_wsS RX8 45 yX8_in wsX8_in) := goodIn_app (goodIn_of _ (by decide +kernel)) ggX8_files_X8_in
set_option maxRecDepth 20000 in
theorem ggX8_files_X8_keepPast : GoodIn wsX8_files wsX8_keepPast := goodIn_r _ [14, 15, 1, 16, 17, 18, 5, 19, 20, 21, 22, 23, 24, 25, 26, 27, 28, 29, 30, 31, 32, 33, 34, 35, 36, 37, 38, 39, 40, 41] (by decide +kernel) (by decide +kernel)
set_option maxRecDepth 20000 in
theorem gX8_files_X8_keepPast : GoodIn wsX8_files (wsV RX8 162 RX8 yX8_keepPast wsX8_keepPast) := goodIn_app (goodIn_of _ (by decide +kernel)) ggX8_files_X8_keepPast
theorem dX8_files_0 : decode cX8_files 0 = .ok (.aload_n 0, 1) := by decide +kernel
theorem dX8_files_1 : decode cX8_files 1 = .ok (.iload_n 1, 1) := by decide +kernel
theorem dX8_files_2 : decode cX8_files 2 = .ok (.invokevirtual 125, 3) := by decide +kernel
theorem dX8_files_5 : decode cX8_files 5 = .ok (.ifCond .eq 13, 3) := by decide +kernel
theorem dX8_files_8 : decode cX8_files 8 = .ok (.iload_n 2, 1) := by decide +kernel
theorem dX8_files_9 : decode cX8_files 9 = .ok (.iconst 1, 1) := by decide +kernel
theorem dX8_files_10 : decode cX8_files 10 = .ok (.bipush 19, 2) := by decide +kernel
theorem dX8_files_12 : decode cX8_files 12 = .ok (.invokestatic 45, 3) := by decide +kernel
theorem dX8_files_15 : decode cX8_files 15 = .ok (.ifCond .ne 5, 3) := by decide +kernel
theorem dX8_files_18 : decode cX8_files 18 = .ok (.iconst (-1), 1) := by decide +kernel
theorem dX8_files_19 : decode cX8_files 19 = .ok (.ireturn, 1) := by decide +kernel
theorem dX8_files_20 : decode cX8_files 20 = .ok (.aload_n 0, 1) := by decide +kernel
theorem dX8_files_21 : decode cX8_files 21 = .ok (.getfield 7, 3) := by decide +kernel
theorem dX8_files_24 : decode cX8_files 24 = .ok (.iconst 0, 1) := by decide +kernel
theorem dX8_files_25 : decode cX8_files 25 = .ok (.iload_n 1, 1) := by decide +kernel
theorem dX8_files_26 : decode cX8_files 26 = .ok (.iadd, 1) := by decide +kernel
theorem dX8_files_27 : decode cX8_files 27 = .ok (.iaload, 1) := by decide +kernel
theorem dX8_files_28 : decode cX8_files 28 = .ok (.iload_n 2, 1) := by decide +kernel
theorem dX8_files_29 : decode cX8_files 29 = .ok (.isub, 1) := by decide +kernel
theorem dX8_files_30 : decode cX8_files 30 = .ok (.iconst 1, 1) := by decide +kernel
theorem dX8_files_31 : decode cX8_files 31 = .ok (.if_icmp .ge 6, 3) := by decide +kernel
theorem dX8_files_34 : decode cX8_files 34 = .ok (.bipush (-2), 2) := by decide +kernel
theorem dX8_files_36 : decode cX8_files 36 = .ok (.ireturn, 1) := by decide +kernel
theorem dX8_files_37 : decode cX8_files 37 = .ok (.aload_n 0, 1) := by decide +kernel
theorem dX8_files_38 : decode cX8_files 38 = .ok (.invokevirtual 162, 3) := by decide +kernel
theorem dX8_files_41 : decode cX8_files 41 = .ok (.aload_n 0, 1) := by decide +kernel
theorem dX8_files_42 : decode cX8_files 42 = .ok (.getfield 7, 3) := by decide +kernel
theorem dX8_files_45 : decode cX8_files 45 = .ok (.iconst 0, 1) := by decide +kernel
theorem dX8_files_46 : decode cX8_files 46 = .ok (.iload_n 1, 1) := by decide +kernel
theorem dX8_files_47 : decode cX8_files 47 = .ok (.iadd, 1) := by decide +kernel
theorem dX8_files_48 : decode cX8_files 48 = .ok (.dup2, 1) := by decide +kernel
theorem dX8_files_49 : decode cX8_files 49 = .ok (.iaload, 1) := by decide +kernel
theorem dX8_files_50 : decode cX8_files 50 = .ok (.iload_n 2, 1) := by decide +kernel
theorem dX8_files_51 : decode cX8_files 51 = .ok (.isub, 1) := by decide +kernel
theorem dX8_files_52 : decode cX8_files 52 = .ok (.iastore, 1) := by decide +kernel
theorem dX8_files_53 : decode cX8_files 53 = .ok (.aload_n 0, 1) := by decide +kernel
theorem dX8_files_54 : decode cX8_files 54 = .ok (.getfield 7, 3) := by decide +kernel
theorem dX8_files_57 : decode cX8_files 57 = .ok (.iconst 0, 1) := by decide +kernel
theorem dX8_files_58 : decode cX8_files 58 = .ok (.iload_n 1, 1) := by decide +kernel
theorem dX8_files_59 : decode cX8_files 59 = .ok (.iadd, 1) := by decide +kernel
theorem dX8_files_60 : decode cX8_files 60 = .ok (.iaload, 1) := by decide +kernel
theorem dX8_files_61 : decode cX8_files 61 = .ok (.ireturn, 1) := by decide +kernel
set_option maxRecDepth 20000 in
theorem ggX8_reversed_X8_has : GoodIn wsX8_reversed wsX8_has := goodIn_r _ [5] (by decide +kernel) (by decide +kernel)
set_option maxRecDepth 20000 in
theorem gX8_reversed_X8_has : GoodIn wsX8_reversed (va_wsS RX8 81 yX8_has wsX8_has) := goodIn_app (goodIn_of _ (by decide +kernel)) ggX8_reversed_X8_has
theorem dX8_reversed_0 : decode cX8_reversed 0 = .ok (.iconst 0, 1) := by decide +kernel
theorem dX8_reversed_1 : decode cX8_reversed 1 = .ok (.istore_n 2, 1) := by decide +kernel
theorem dX8_reversed_2 : decode cX8_reversed 2 = .ok (.iconst 0, 1) := by decide +kernel
theorem dX8_reversed_3 : decode cX8_reversed 3 = .ok (.istore_n 3, 1) := by decide +kernel
theorem dX8_reversed_4 : decode cX8_reversed 4 = .ok (.iload_n 3, 1) := by decide +kernel
theorem dX8_reversed_5 : decode cX8_reversed 5 = .ok (.aload_n 0, 1) := by decide +kernel
theorem dX8_reversed_6 : decode cX8_reversed 6 = .ok (.getfield 41, 3) := by decide +kernel
theorem dX8_reversed_9 : decode cX8_reversed 9 = .ok (.iconst 1, 1) := by decide +kernel
theorem dX8_reversed_10 : decode cX8_reversed 10 = .ok (.isub, 1) := by decide +kernel
theorem dX8_reversed_11 : decode cX8_reversed 11 = .ok (.if_icmp .ge 34, 3) := by decide +kernel
theorem dX8_reversed_14 : decode cX8_reversed 14 = .ok (.iload_n 2, 1) := by decide +kernel
theorem dX8_reversed_15 : decode cX8_reversed 15 = .ok (.iload_n 1, 1) := by decide +kernel
theorem dX8_reversed_16 : decode cX8_reversed 16 = .ok (.iload_n 3, 1) := by decide +kernel
theorem dX8_reversed_17 : decode cX8_reversed 17 = .ok (.invokestatic 81, 3) := by decide +kernel
theorem dX8_reversed_20 : decode cX8_reversed 20 = .ok (.ifCond .eq 16, 3) := by decide +kernel
theorem dX8_reversed_23 : decode cX8_reversed 23 = .ok (.iconst 1, 1) := by decide +kernel
theorem dX8_reversed_24 : decode cX8_reversed 24 = .ok (.aload_n 0, 1) := by decide +kernel
theorem dX8_reversed_25 : decode cX8_reversed 25 = .ok (.getfield 41, 3) := by decide +kernel
theorem dX8_reversed_28 : decode cX8_reversed 28 = .ok (.iconst 2, 1) := by decide +kernel
theorem dX8_reversed_29 : decode cX8_reversed 29 = .ok (.isub, 1) := by decide +kernel
theorem dX8_reversed_30 : decode cX8_reversed 30 = .ok (.iload_n 3, 1) := by decide +kernel
theorem dX8_reversed_31 : decode cX8_reversed 31 = .ok (.isub, 1) := by decide +kernel
theorem dX8_reversed_32 : decode cX8_reversed 32 = .ok (.ishl, 1) := by decide +kernel
theorem dX8_reversed_33 : decode cX8_reversed 33 = .ok (.goto 4, 3) := by decide +kernel
theorem dX8_reversed_36 : decode cX8_reversed 36 = .ok (.iconst 0, 1) := by decide +kernel
theorem dX8_reversed_37 : decode cX8_reversed 37 = .ok (.ior, 1) := by decide +kernel
theorem dX8_reversed_38 : decode cX8_reversed 38 = .ok (.istore_n 2, 1) := by decide +kernel
theorem dX8_reversed_39 : decode cX8_reversed 39 = .ok (.iinc 3 1, 3) := by decide +kernel
theorem dX8_reversed_42 : decode cX8_reversed 42 = .ok (.goto (-38), 3) := by decide +kernel
theorem dX8_reversed_45 : decode cX8_reversed 45 = .ok (.iload_n 2, 1) := by decide +kernel
theorem dX8_reversed_46 : decode cX8_reversed 46 = .ok (.ireturn, 1) := by decide +kernel
set_option maxRecDepth 20000 in
theorem ggX8_turned_X8_keepPast : GoodIn wsX8_turned wsX8_keepPast := goodIn_r _ [7, 8, 2, 9, 10, 11, 6, 12, 20, 21, 22, 23, 24, 25, 26, 27, 28, 29, 30, 31, 32, 33, 34, 35, 36, 37, 38, 39, 40, 41] (by decide +kernel) (by decide +kernel)
set_option maxRecDepth 20000 in
theorem gX8_turned_X8_keepPast : GoodIn wsX8_turned (wsV RX8 162 RX8 yX8_keepPast wsX8_keepPast) := goodIn_app (goodIn_of _ (by decide +kernel)) ggX8_turned_X8_keepPast
set_option maxRecDepth 20000 in
theorem ggX8_turned_X8_reversed : GoodIn wsX8_turned wsX8_reversed := goodIn_r _ [16, 1, 17, 18, 6, 19, 20, 21, 22, 23, 24, 25, 26, 27, 28, 29, 30, 31, 32, 33, 34, 35, 36, 37, 38, 39, 40, 41] (by decide +kernel) (by decide +kernel)
set_option maxRecDepth 20000 in
theorem gX8_turned_X8_reversed : GoodIn wsX8_turned (wsV RX8 165 RX8 yX8_reversed wsX8_reversed) := goodIn_app (goodIn_of _ (by decide +kernel)) ggX8_turned_X8_reversed
theorem dX8_turned_0 : decode cX8_turned 0 = .ok (.aload_n 0, 1) := by decide +kernel
theorem dX8_turned_1 : decode cX8_turned 1 = .ok (.getfield 41, 3) := by decide +kernel
theorem dX8_turned_4 : decode cX8_turned 4 = .ok (.ifCond .ne 6, 3) := by decide +kernel
theorem dX8_turned_7 : decode cX8_turned 7 = .ok (.bipush (-2), 2) := by decide +kernel
theorem dX8_turned_9 : decode cX8_turned 9 = .ok (.ireturn, 1) := by decide +kernel
theorem dX8_turned_10 : decode cX8_turned 10 = .ok (.aload_n 0, 1) := by decide +kernel
theorem dX8_turned_11 : decode cX8_turned 11 = .ok (.invokevirtual 162, 3) := by decide +kernel
theorem dX8_turned_14 : decode cX8_turned 14 = .ok (.iconst 0, 1) := by decide +kernel
theorem dX8_turned_15 : decode cX8_turned 15 = .ok (.istore_n 1, 1) := by decide +kernel
theorem dX8_turned_16 : decode cX8_turned 16 = .ok (.aload_n 0, 1) := by decide +kernel
theorem dX8_turned_17 : decode cX8_turned 17 = .ok (.getfield 41, 3) := by decide +kernel
theorem dX8_turned_20 : decode cX8_turned 20 = .ok (.iconst 1, 1) := by decide +kernel
theorem dX8_turned_21 : decode cX8_turned 21 = .ok (.isub, 1) := by decide +kernel
theorem dX8_turned_22 : decode cX8_turned 22 = .ok (.istore_n 2, 1) := by decide +kernel
theorem dX8_turned_23 : decode cX8_turned 23 = .ok (.iload_n 1, 1) := by decide +kernel
theorem dX8_turned_24 : decode cX8_turned 24 = .ok (.iload_n 2, 1) := by decide +kernel
theorem dX8_turned_25 : decode cX8_turned 25 = .ok (.if_icmp .ge 46, 3) := by decide +kernel
theorem dX8_turned_28 : decode cX8_turned 28 = .ok (.aload_n 0, 1) := by decide +kernel
theorem dX8_turned_29 : decode cX8_turned 29 = .ok (.getfield 7, 3) := by decide +kernel
theorem dX8_turned_32 : decode cX8_turned 32 = .ok (.iconst 0, 1) := by decide +kernel
theorem dX8_turned_33 : decode cX8_turned 33 = .ok (.iload_n 1, 1) := by decide +kernel
theorem dX8_turned_34 : decode cX8_turned 34 = .ok (.iadd, 1) := by decide +kernel
theorem dX8_turned_35 : decode cX8_turned 35 = .ok (.iaload, 1) := by decide +kernel
theorem dX8_turned_36 : decode cX8_turned 36 = .ok (.istore_n 3, 1) := by decide +kernel
theorem dX8_turned_37 : decode cX8_turned 37 = .ok (.aload_n 0, 1) := by decide +kernel
theorem dX8_turned_38 : decode cX8_turned 38 = .ok (.getfield 7, 3) := by decide +kernel
theorem dX8_turned_41 : decode cX8_turned 41 = .ok (.iconst 0, 1) := by decide +kernel
theorem dX8_turned_42 : decode cX8_turned 42 = .ok (.iload_n 1, 1) := by decide +kernel
theorem dX8_turned_43 : decode cX8_turned 43 = .ok (.iadd, 1) := by decide +kernel
theorem dX8_turned_44 : decode cX8_turned 44 = .ok (.aload_n 0, 1) := by decide +kernel
theorem dX8_turned_45 : decode cX8_turned 45 = .ok (.getfield 7, 3) := by decide +kernel
theorem dX8_turned_48 : decode cX8_turned 48 = .ok (.iconst 0, 1) := by decide +kernel
theorem dX8_turned_49 : decode cX8_turned 49 = .ok (.iload_n 2, 1) := by decide +kernel
theorem dX8_turned_50 : decode cX8_turned 50 = .ok (.iadd, 1) := by decide +kernel
theorem dX8_turned_51 : decode cX8_turned 51 = .ok (.iaload, 1) := by decide +kernel
theorem dX8_turned_52 : decode cX8_turned 52 = .ok (.iastore, 1) := by decide +kernel
theorem dX8_turned_53 : decode cX8_turned 53 = .ok (.aload_n 0, 1) := by decide +kernel
theorem dX8_turned_54 : decode cX8_turned 54 = .ok (.getfield 7, 3) := by decide +kernel
theorem dX8_turned_57 : decode cX8_turned 57 = .ok (.iconst 0, 1) := by decide +kernel
theorem dX8_turned_58 : decode cX8_turned 58 = .ok (.iload_n 2, 1) := by decide +kernel
theorem dX8_turned_59 : decode cX8_turned 59 = .ok (.iadd, 1) := by decide +kernel
theorem dX8_turned_60 : decode cX8_turned 60 = .ok (.iload_n 3, 1) := by decide +kernel
theorem dX8_turned_61 : decode cX8_turned 61 = .ok (.iastore, 1) := by decide +kernel
theorem dX8_turned_62 : decode cX8_turned 62 = .ok (.iinc 1 1, 3) := by decide +kernel
theorem dX8_turned_65 : decode cX8_turned 65 = .ok (.iinc 2 (-1), 3) := by decide +kernel
theorem dX8_turned_68 : decode cX8_turned 68 = .ok (.goto (-45), 3) := by decide +kernel
theorem dX8_turned_71 : decode cX8_turned 71 = .ok (.aload_n 0, 1) := by decide +kernel
theorem dX8_turned_72 : decode cX8_turned 72 = .ok (.getfield 7, 3) := by decide +kernel
theorem dX8_turned_75 : decode cX8_turned 75 = .ok (.bipush 9, 2) := by decide +kernel
theorem dX8_turned_77 : decode cX8_turned 77 = .ok (.aload_n 0, 1) := by decide +kernel
theorem dX8_turned_78 : decode cX8_turned 78 = .ok (.aload_n 0, 1) := by decide +kernel
theorem dX8_turned_79 : decode cX8_turned 79 = .ok (.getfield 7, 3) := by decide +kernel
theorem dX8_turned_82 : decode cX8_turned 82 = .ok (.bipush 9, 2) := by decide +kernel
theorem dX8_turned_84 : decode cX8_turned 84 = .ok (.iaload, 1) := by decide +kernel
theorem dX8_turned_85 : decode cX8_turned 85 = .ok (.invokevirtual 165, 3) := by decide +kernel
theorem dX8_turned_88 : decode cX8_turned 88 = .ok (.iastore, 1) := by decide +kernel
theorem dX8_turned_89 : decode cX8_turned 89 = .ok (.aload_n 0, 1) := by decide +kernel
theorem dX8_turned_90 : decode cX8_turned 90 = .ok (.getfield 7, 3) := by decide +kernel
theorem dX8_turned_93 : decode cX8_turned 93 = .ok (.bipush 10, 2) := by decide +kernel
theorem dX8_turned_95 : decode cX8_turned 95 = .ok (.aload_n 0, 1) := by decide +kernel
theorem dX8_turned_96 : decode cX8_turned 96 = .ok (.aload_n 0, 1) := by decide +kernel
theorem dX8_turned_97 : decode cX8_turned 97 = .ok (.getfield 7, 3) := by decide +kernel
theorem dX8_turned_100 : decode cX8_turned 100 = .ok (.bipush 10, 2) := by decide +kernel
theorem dX8_turned_102 : decode cX8_turned 102 = .ok (.iaload, 1) := by decide +kernel
theorem dX8_turned_103 : decode cX8_turned 103 = .ok (.invokevirtual 165, 3) := by decide +kernel
theorem dX8_turned_106 : decode cX8_turned 106 = .ok (.iastore, 1) := by decide +kernel
theorem dX8_turned_107 : decode cX8_turned 107 = .ok (.aload_n 0, 1) := by decide +kernel
theorem dX8_turned_108 : decode cX8_turned 108 = .ok (.getfield 7, 3) := by decide +kernel
theorem dX8_turned_111 : decode cX8_turned 111 = .ok (.bipush 9, 2) := by decide +kernel
theorem dX8_turned_113 : decode cX8_turned 113 = .ok (.iaload, 1) := by decide +kernel
theorem dX8_turned_114 : decode cX8_turned 114 = .ok (.ireturn, 1) := by decide +kernel
set_option maxRecDepth 20000 in
theorem ggX8_undo_X8_copyRow : GoodIn wsX8_undo wsX8_copyRow := goodIn_r _ [6, 7, 8, 9, 10, 11, 12, 13, 14, 15, 16, 17, 18, 19, 20, 21, 22, 23, 24, 25, 26, 27, 28, 29] (by decide +kernel) (by decide +kernel)
set_option maxRecDepth 20000 in
theorem gX8_undo_X8_copyRow : GoodIn wsX8_undo (wsV RX8 158 RX8 yX8_copyRow wsX8_copyRow) := goodIn_app (goodIn_of _ (by decide +kernel)) ggX8_undo_X8_copyRow
theorem dX8_undo_0 : decode cX8_undo 0 = .ok (.aload_n 0, 1) := by decide +kernel
theorem dX8_undo_1 : decode cX8_undo 1 = .ok (.getfield 102, 3) := by decide +kernel
theorem dX8_undo_4 : decode cX8_undo 4 = .ok (.ifCond .ne 6, 3) := by decide +kernel
theorem dX8_undo_7 : decode cX8_undo 7 = .ok (.bipush (-2), 2) := by decide +kernel
theorem dX8_undo_9 : decode cX8_undo 9 = .ok (.ireturn, 1) := by decide +kernel
theorem dX8_undo_10 : decode cX8_undo 10 = .ok (.aload_n 0, 1) := by decide +kernel
theorem dX8_undo_11 : decode cX8_undo 11 = .ok (.dup, 1) := by decide +kernel
theorem dX8_undo_12 : decode cX8_undo 12 = .ok (.getfield 102, 3) := by decide +kernel
theorem dX8_undo_15 : decode cX8_undo 15 = .ok (.iconst 1, 1) := by decide +kernel
theorem dX8_undo_16 : decode cX8_undo 16 = .ok (.isub, 1) := by decide +kernel
theorem dX8_undo_17 : decode cX8_undo 17 = .ok (.putfield 102, 3) := by decide +kernel
theorem dX8_undo_20 : decode cX8_undo 20 = .ok (.aload_n 0, 1) := by decide +kernel
theorem dX8_undo_21 : decode cX8_undo 21 = .ok (.bipush 11, 2) := by decide +kernel
theorem dX8_undo_23 : decode cX8_undo 23 = .ok (.bipush 11, 2) := by decide +kernel
theorem dX8_undo_25 : decode cX8_undo 25 = .ok (.aload_n 0, 1) := by decide +kernel
theorem dX8_undo_26 : decode cX8_undo 26 = .ok (.getfield 102, 3) := by decide +kernel
theorem dX8_undo_29 : decode cX8_undo 29 = .ok (.imul, 1) := by decide +kernel
theorem dX8_undo_30 : decode cX8_undo 30 = .ok (.iadd, 1) := by decide +kernel
theorem dX8_undo_31 : decode cX8_undo 31 = .ok (.iconst 0, 1) := by decide +kernel
theorem dX8_undo_32 : decode cX8_undo 32 = .ok (.invokevirtual 158, 3) := by decide +kernel
theorem dX8_undo_35 : decode cX8_undo 35 = .ok (.aload_n 0, 1) := by decide +kernel
theorem dX8_undo_36 : decode cX8_undo 36 = .ok (.getfield 102, 3) := by decide +kernel
theorem dX8_undo_39 : decode cX8_undo 39 = .ok (.ireturn, 1) := by decide +kernel
set_option maxRecDepth 20000 in
theorem ggX8_box_X8_in : GoodIn wsX8_box wsX8_in := goodIn_r _ [6] (by decide +kernel) (by decide +kernel)
set_option maxRecDepth 20000 in
theorem gX8_box_X8_in : GoodIn wsX8_box (va_wsS RX8 45 yX8_in wsX8_in) := goodIn_app (goodIn_of _ (by decide +kernel)) ggX8_box_X8_in
set_option maxRecDepth 20000 in
theorem ggX8_box_X8_folds : GoodIn wsX8_box wsX8_folds := goodIn_r _ [10, 11, 39, 40, 41, 42, 43, 44, 45, 46, 47, 48, 49, 50, 51, 52, 53, 54, 55, 56, 57, 58, 59, 60] (by decide +kernel) (by decide +kernel)
set_option maxRecDepth 20000 in
theorem gX8_box_X8_folds : GoodIn wsX8_box (wsV RX8 135 RX8 yX8_folds wsX8_folds) := goodIn_app (goodIn_of _ (by decide +kernel)) ggX8_box_X8_folds
set_option maxRecDepth 20000 in
theorem ggX8_box_X8_isFold : GoodIn wsX8_box wsX8_isFold := goodIn_r _ [15, 2, 7, 8, 9, 5, 10, 11, 3, 4, 6, 39, 40, 41, 42, 43, 44, 45, 46, 47, 48, 49, 50, 51, 52, 53, 54, 55, 56, 57, 58, 59, 60] (by decide +kernel) (by decide +kernel)
set_option maxRecDepth 20000 in
theorem gX8_box_X8_isFold : GoodIn wsX8_box (wsV RX8 139 RX8 yX8_isFold wsX8_isFold) := goodIn_app (goodIn_of _ (by decide +kernel)) ggX8_box_X8_isFold
set_option maxRecDepth 20000 in
theorem ggX8_box_X8_spanBy : GoodIn wsX8_box wsX8_spanBy := goodIn_r _ [19, 20, 21, 22, 5, 23, 24, 11, 2, 25, 26, 27, 28, 29, 30, 31, 32, 33, 34, 35, 39, 40, 41, 42, 43, 44, 45, 46, 47, 48, 49, 50, 51, 52, 53, 54, 55, 56, 57, 58, 59, 60] (by decide +kernel) (by decide +kernel)
set_option maxRecDepth 20000 in
theorem gX8_box_X8_spanBy : GoodIn wsX8_box (wsV RX8 118 RX8 yX8_spanBy wsX8_spanBy) := goodIn_app (goodIn_of _ (by decide +kernel)) ggX8_box_X8_spanBy
set_option maxRecDepth 20000 in
theorem ggX8_box_X8_bits : GoodIn wsX8_box wsX8_bits := goodIn_r _ [38] (by decide +kernel) (by decide +kernel)
set_option maxRecDepth 20000 in
theorem gX8_box_X8_bits : GoodIn wsX8_box (va_wsS RX8 168 yX8_bits wsX8_bits) := goodIn_app (goodIn_of _ (by decide +kernel)) ggX8_box_X8_bits
theorem dX8_box_0 : decode cX8_box 0 = .ok (.iload_n 1, 1) := by decide +kernel
theorem dX8_box_1 : decode cX8_box 1 = .ok (.iconst 1, 1) := by decide +kernel
theorem dX8_box_2 : decode cX8_box 2 = .ok (.sipush 180, 3) := by decide +kernel
theorem dX8_box_5 : decode cX8_box 5 = .ok (.invokestatic 45, 3) := by decide +kernel
theorem dX8_box_8 : decode cX8_box 8 = .ok (.ifCond .eq 12, 3) := by decide +kernel
theorem dX8_box_11 : decode cX8_box 11 = .ok (.iload_n 2, 1) := by decide +kernel
theorem dX8_box_12 : decode cX8_box 12 = .ok (.iconst 0, 1) := by decide +kernel
theorem dX8_box_13 : decode cX8_box 13 = .ok (.iconst 2, 1) := by decide +kernel
theorem dX8_box_14 : decode cX8_box 14 = .ok (.invokestatic 45, 3) := by decide +kernel
theorem dX8_box_17 : decode cX8_box 17 = .ok (.ifCond .ne 5, 3) := by decide +kernel
theorem dX8_box_20 : decode cX8_box 20 = .ok (.iconst (-1), 1) := by decide +kernel
theorem dX8_box_21 : decode cX8_box 21 = .ok (.ireturn, 1) := by decide +kernel
theorem dX8_box_22 : decode cX8_box 22 = .ok (.iconst 0, 1) := by decide +kernel
theorem dX8_box_23 : decode cX8_box 23 = .ok (.istore_n 3, 1) := by decide +kernel
theorem dX8_box_24 : decode cX8_box 24 = .ok (.bipush (-9), 2) := by decide +kernel
theorem dX8_box_26 : decode cX8_box 26 = .ok (.istore 4, 2) := by decide +kernel
theorem dX8_box_28 : decode cX8_box 28 = .ok (.ldc 138, 2) := by decide +kernel
theorem dX8_box_30 : decode cX8_box 30 = .ok (.istore 5, 2) := by decide +kernel
theorem dX8_box_32 : decode cX8_box 32 = .ok (.iconst 0, 1) := by decide +kernel
theorem dX8_box_33 : decode cX8_box 33 = .ok (.istore 6, 2) := by decide +kernel
theorem dX8_box_35 : decode cX8_box 35 = .ok (.iload 6, 2) := by decide +kernel
theorem dX8_box_37 : decode cX8_box 37 = .ok (.aload_n 0, 1) := by decide +kernel
theorem dX8_box_38 : decode cX8_box 38 = .ok (.invokevirtual 135, 3) := by decide +kernel
theorem dX8_box_41 : decode cX8_box 41 = .ok (.if_icmp .ge 78, 3) := by decide +kernel
theorem dX8_box_44 : decode cX8_box 44 = .ok (.aload_n 0, 1) := by decide +kernel
theorem dX8_box_45 : decode cX8_box 45 = .ok (.iload 6, 2) := by decide +kernel
theorem dX8_box_47 : decode cX8_box 47 = .ok (.invokevirtual 139, 3) := by decide +kernel
theorem dX8_box_50 : decode cX8_box 50 = .ok (.ifCond .eq 63, 3) := by decide +kernel
theorem dX8_box_53 : decode cX8_box 53 = .ok (.aload_n 0, 1) := by decide +kernel
theorem dX8_box_54 : decode cX8_box 54 = .ok (.iload 6, 2) := by decide +kernel
theorem dX8_box_56 : decode cX8_box 56 = .ok (.invokevirtual 118, 3) := by decide +kernel
theorem dX8_box_59 : decode cX8_box 59 = .ok (.iload_n 1, 1) := by decide +kernel
theorem dX8_box_60 : decode cX8_box 60 = .ok (.if_icmp .gt 53, 3) := by decide +kernel
theorem dX8_box_63 : decode cX8_box 63 = .ok (.iinc 3 1, 3) := by decide +kernel
theorem dX8_box_66 : decode cX8_box 66 = .ok (.iload 6, 2) := by decide +kernel
theorem dX8_box_68 : decode cX8_box 68 = .ok (.aload_n 0, 1) := by decide +kernel
theorem dX8_box_69 : decode cX8_box 69 = .ok (.getfield 7, 3) := by decide +kernel
theorem dX8_box_72 : decode cX8_box 72 = .ok (.bipush 9, 2) := by decide +kernel
theorem dX8_box_74 : decode cX8_box 74 = .ok (.iaload, 1) := by decide +kernel
theorem dX8_box_75 : decode cX8_box 75 = .ok (.ixor, 1) := by decide +kernel
theorem dX8_box_76 : decode cX8_box 76 = .ok (.invokestatic 168, 3) := by decide +kernel
theorem dX8_box_79 : decode cX8_box 79 = .ok (.istore 7, 2) := by decide +kernel
theorem dX8_box_81 : decode cX8_box 81 = .ok (.iload 7, 2) := by decide +kernel
theorem dX8_box_83 : decode cX8_box 83 = .ok (.iload 5, 2) := by decide +kernel
theorem dX8_box_85 : decode cX8_box 85 = .ok (.if_icmp .ge 8, 3) := by decide +kernel
theorem dX8_box_88 : decode cX8_box 88 = .ok (.iload 6, 2) := by decide +kernel
theorem dX8_box_90 : decode cX8_box 90 = .ok (.goto 5, 3) := by decide +kernel
theorem dX8_box_93 : decode cX8_box 93 = .ok (.iload 4, 2) := by decide +kernel
theorem dX8_box_95 : decode cX8_box 95 = .ok (.istore 4, 2) := by decide +kernel
theorem dX8_box_97 : decode cX8_box 97 = .ok (.iload 7, 2) := by decide +kernel
theorem dX8_box_99 : decode cX8_box 99 = .ok (.iload 5, 2) := by decide +kernel
theorem dX8_box_101 : decode cX8_box 101 = .ok (.if_icmp .ge 8, 3) := by decide +kernel
theorem dX8_box_104 : decode cX8_box 104 = .ok (.iload 7, 2) := by decide +kernel
theorem dX8_box_106 : decode cX8_box 106 = .ok (.goto 5, 3) := by decide +kernel
theorem dX8_box_109 : decode cX8_box 109 = .ok (.iload 5, 2) := by decide +kernel
theorem dX8_box_111 : decode cX8_box 111 = .ok (.istore 5, 2) := by decide +kernel
theorem dX8_box_113 : decode cX8_box 113 = .ok (.iinc 6 1, 3) := by decide +kernel
theorem dX8_box_116 : decode cX8_box 116 = .ok (.goto (-81), 3) := by decide +kernel
theorem dX8_box_119 : decode cX8_box 119 = .ok (.iload_n 2, 1) := by decide +kernel
theorem dX8_box_120 : decode cX8_box 120 = .ok (.ifCond .ne 7, 3) := by decide +kernel
theorem dX8_box_123 : decode cX8_box 123 = .ok (.iload_n 3, 1) := by decide +kernel
theorem dX8_box_124 : decode cX8_box 124 = .ok (.goto 22, 3) := by decide +kernel
theorem dX8_box_127 : decode cX8_box 127 = .ok (.iload_n 2, 1) := by decide +kernel
theorem dX8_box_128 : decode cX8_box 128 = .ok (.iconst 1, 1) := by decide +kernel
theorem dX8_box_129 : decode cX8_box 129 = .ok (.if_icmp .eq 10, 3) := by decide +kernel
theorem dX8_box_132 : decode cX8_box 132 = .ok (.iload 4, 2) := by decide +kernel
theorem dX8_box_134 : decode cX8_box 134 = .ok (.bipush (-9), 2) := by decide +kernel
theorem dX8_box_136 : decode cX8_box 136 = .ok (.if_icmp .ne 8, 3) := by decide +kernel
theorem dX8_box_139 : decode cX8_box 139 = .ok (.iload 4, 2) := by decide +kernel
theorem dX8_box_141 : decode cX8_box 141 = .ok (.goto 5, 3) := by decide +kernel
theorem dX8_box_144 : decode cX8_box 144 = .ok (.iload 5, 2) := by decide +kernel
theorem dX8_box_146 : decode cX8_box 146 = .ok (.ireturn, 1) := by decide +kernel
set_option maxRecDepth 20000 in
theorem ggX8_end_X8_in : GoodIn wsX8_end wsX8_in := goodIn_r _ [8] (by decide +kernel) (by decide +kernel)
set_option maxRecDepth 20000 in
theorem gX8_end_X8_in : GoodIn wsX8_end (va_wsS RX8 45 yX8_in wsX8_in) := goodIn_app (goodIn_of _ (by decide +kernel)) ggX8_end_X8_in
set_option maxRecDepth 20000 in
theorem ggX8_end_X8_folds : GoodIn wsX8_end wsX8_folds := goodIn_r _ [12, 3, 27, 28, 29, 30, 31, 32, 33, 34, 35, 36, 37, 38, 39, 40, 41, 42, 43, 44, 45, 46, 47, 48] (by decide +kernel) (by decide +kernel)
set_option maxRecDepth 20000 in
theorem gX8_end_X8_folds : GoodIn wsX8_end (wsV RX8 135 RX8 yX8_folds wsX8_folds) := goodIn_app (goodIn_of _ (by decide +kernel)) ggX8_end_X8_folds
set_option maxRecDepth 20000 in
theorem ggX8_end_X8_isFold : GoodIn wsX8_end wsX8_isFold := goodIn_r _ [16, 4, 9, 10, 11, 7, 12, 3, 5, 6, 8, 27, 28, 29, 30, 31, 32, 33, 34, 35, 36, 37, 38, 39, 40, 41, 42, 43, 44, 45, 46, 47, 48] (by decide +kernel) (by decide +kernel)
set_option maxRecDepth 20000 in
theorem gX8_end_X8_isFold : GoodIn wsX8_end (wsV RX8 139 RX8 yX8_isFold wsX8_isFold) := goodIn_app (goodIn_of _ (by decide +kernel)) ggX8_end_X8_isFold
set_option maxRecDepth 20000 in
theorem ggX8_end_X8_lies : GoodIn wsX8_end wsX8_lies := goodIn_r _ [20, 2, 3, 4, 21, 22, 7, 23, 27, 28, 29, 30, 31, 32, 33, 34, 35, 36, 37, 38, 39, 40, 41, 42, 43, 44, 45, 46, 47, 48] (by decide +kernel) (by decide +kernel)
set_option maxRecDepth 20000 in
theorem gX8_end_X8_lies : GoodIn wsX8_end (wsV RX8 111 RX8 yX8_lies wsX8_lies) := goodIn_app (goodIn_of _ (by decide +kernel)) ggX8_end_X8_lies
set_option maxRecDepth 20000 in
theorem ggX8_end_X8_bits : GoodIn wsX8_end wsX8_bits := goodIn_r _ [26] (by decide +kernel) (by decide +kernel)
set_option maxRecDepth 20000 in
theorem gX8_end_X8_bits : GoodIn wsX8_end (va_wsS RX8 168 yX8_bits wsX8_bits) := goodIn_app (goodIn_of _ (by decide +kernel)) ggX8_end_X8_bits
theorem dX8_end_0 : decode cX8_end 0 = .ok (.iload_n 1, 1) := by decide +kernel
theorem dX8_end_1 : decode cX8_end 1 = .ok (.sipush (-180), 3) := by decide +kernel
theorem dX8_end_4 : decode cX8_end 4 = .ok (.sipush 180, 3) := by decide +kernel
theorem dX8_end_7 : decode cX8_end 7 = .ok (.invokestatic 45, 3) := by decide +kernel
theorem dX8_end_10 : decode cX8_end 10 = .ok (.ifCond .ne 5, 3) := by decide +kernel
theorem dX8_end_13 : decode cX8_end 13 = .ok (.iconst (-1), 1) := by decide +kernel
theorem dX8_end_14 : decode cX8_end 14 = .ok (.ireturn, 1) := by decide +kernel
theorem dX8_end_15 : decode cX8_end 15 = .ok (.bipush (-9), 2) := by decide +kernel
theorem dX8_end_17 : decode cX8_end 17 = .ok (.istore_n 2, 1) := by decide +kernel
theorem dX8_end_18 : decode cX8_end 18 = .ok (.ldc 138, 2) := by decide +kernel
theorem dX8_end_20 : decode cX8_end 20 = .ok (.istore_n 3, 1) := by decide +kernel
theorem dX8_end_21 : decode cX8_end 21 = .ok (.iconst 0, 1) := by decide +kernel
theorem dX8_end_22 : decode cX8_end 22 = .ok (.istore 4, 2) := by decide +kernel
theorem dX8_end_24 : decode cX8_end 24 = .ok (.iload 4, 2) := by decide +kernel
theorem dX8_end_26 : decode cX8_end 26 = .ok (.aload_n 0, 1) := by decide +kernel
theorem dX8_end_27 : decode cX8_end 27 = .ok (.invokevirtual 135, 3) := by decide +kernel
theorem dX8_end_30 : decode cX8_end 30 = .ok (.if_icmp .ge 86, 3) := by decide +kernel
theorem dX8_end_33 : decode cX8_end 33 = .ok (.aload_n 0, 1) := by decide +kernel
theorem dX8_end_34 : decode cX8_end 34 = .ok (.iload 4, 2) := by decide +kernel
theorem dX8_end_36 : decode cX8_end 36 = .ok (.invokevirtual 139, 3) := by decide +kernel
theorem dX8_end_39 : decode cX8_end 39 = .ok (.ifCond .eq 71, 3) := by decide +kernel
theorem dX8_end_42 : decode cX8_end 42 = .ok (.aload_n 0, 1) := by decide +kernel
theorem dX8_end_43 : decode cX8_end 43 = .ok (.iload 4, 2) := by decide +kernel
theorem dX8_end_45 : decode cX8_end 45 = .ok (.bipush (-9), 2) := by decide +kernel
theorem dX8_end_47 : decode cX8_end 47 = .ok (.iconst 0, 1) := by decide +kernel
theorem dX8_end_48 : decode cX8_end 48 = .ok (.invokevirtual 111, 3) := by decide +kernel
theorem dX8_end_51 : decode cX8_end 51 = .ok (.aload_n 0, 1) := by decide +kernel
theorem dX8_end_52 : decode cX8_end 52 = .ok (.getfield 29, 3) := by decide +kernel
theorem dX8_end_55 : decode cX8_end 55 = .ok (.aload_n 0, 1) := by decide +kernel
theorem dX8_end_56 : decode cX8_end 56 = .ok (.getfield 41, 3) := by decide +kernel
theorem dX8_end_59 : decode cX8_end 59 = .ok (.iaload, 1) := by decide +kernel
theorem dX8_end_60 : decode cX8_end 60 = .ok (.iload_n 1, 1) := by decide +kernel
theorem dX8_end_61 : decode cX8_end 61 = .ok (.if_icmp .ne 19, 3) := by decide +kernel
theorem dX8_end_64 : decode cX8_end 64 = .ok (.iload 4, 2) := by decide +kernel
theorem dX8_end_66 : decode cX8_end 66 = .ok (.aload_n 0, 1) := by decide +kernel
theorem dX8_end_67 : decode cX8_end 67 = .ok (.getfield 7, 3) := by decide +kernel
theorem dX8_end_70 : decode cX8_end 70 = .ok (.bipush 9, 2) := by decide +kernel
theorem dX8_end_72 : decode cX8_end 72 = .ok (.iaload, 1) := by decide +kernel
theorem dX8_end_73 : decode cX8_end 73 = .ok (.ixor, 1) := by decide +kernel
theorem dX8_end_74 : decode cX8_end 74 = .ok (.invokestatic 168, 3) := by decide +kernel
theorem dX8_end_77 : decode cX8_end 77 = .ok (.goto 5, 3) := by decide +kernel
theorem dX8_end_80 : decode cX8_end 80 = .ok (.ldc 138, 2) := by decide +kernel
theorem dX8_end_82 : decode cX8_end 82 = .ok (.istore 5, 2) := by decide +kernel
theorem dX8_end_84 : decode cX8_end 84 = .ok (.iload 5, 2) := by decide +kernel
theorem dX8_end_86 : decode cX8_end 86 = .ok (.iload_n 3, 1) := by decide +kernel
theorem dX8_end_87 : decode cX8_end 87 = .ok (.if_icmp .ge 8, 3) := by decide +kernel
theorem dX8_end_90 : decode cX8_end 90 = .ok (.iload 4, 2) := by decide +kernel
theorem dX8_end_92 : decode cX8_end 92 = .ok (.goto 4, 3) := by decide +kernel
theorem dX8_end_95 : decode cX8_end 95 = .ok (.iload_n 2, 1) := by decide +kernel
theorem dX8_end_96 : decode cX8_end 96 = .ok (.istore_n 2, 1) := by decide +kernel
theorem dX8_end_97 : decode cX8_end 97 = .ok (.iload 5, 2) := by decide +kernel
theorem dX8_end_99 : decode cX8_end 99 = .ok (.iload_n 3, 1) := by decide +kernel
theorem dX8_end_100 : decode cX8_end 100 = .ok (.if_icmp .ge 8, 3) := by decide +kernel
theorem dX8_end_103 : decode cX8_end 103 = .ok (.iload 5, 2) := by decide +kernel
theorem dX8_end_105 : decode cX8_end 105 = .ok (.goto 4, 3) := by decide +kernel
theorem dX8_end_108 : decode cX8_end 108 = .ok (.iload_n 3, 1) := by decide +kernel
theorem dX8_end_109 : decode cX8_end 109 = .ok (.istore_n 3, 1) := by decide +kernel
theorem dX8_end_110 : decode cX8_end 110 = .ok (.iinc 4 1, 3) := by decide +kernel
theorem dX8_end_113 : decode cX8_end 113 = .ok (.goto (-89), 3) := by decide +kernel
theorem dX8_end_116 : decode cX8_end 116 = .ok (.iload_n 2, 1) := by decide +kernel
theorem dX8_end_117 : decode cX8_end 117 = .ok (.ireturn, 1) := by decide +kernel
set_option maxRecDepth 20000 in
theorem ggX8_measures_X8_in : GoodIn wsX8_measures wsX8_in := goodIn_r _ [5] (by decide +kernel) (by decide +kernel)
set_option maxRecDepth 20000 in
theorem gX8_measures_X8_in : GoodIn wsX8_measures (va_wsS RX8 45 yX8_in wsX8_in) := goodIn_app (goodIn_of _ (by decide +kernel)) ggX8_measures_X8_in
set_option maxRecDepth 20000 in
theorem ggX8_measures_X8_measure : GoodIn wsX8_measures wsX8_measure := goodIn_r _ [9, 1, 10, 11, 12, 13, 14, 4, 15, 16, 17, 18, 19, 20, 2, 3, 5, 21, 22, 23, 24, 25, 26, 27, 28, 29, 30, 31, 32, 33, 34, 35, 36, 37, 38, 39, 40, 41, 42, 43, 44, 45, 46, 47, 48, 49] (by decide +kernel) (by decide +kernel)
set_option maxRecDepth 20000 in
theorem gX8_measures_X8_measure : GoodIn wsX8_measures (wsV RX8 143 RX8 yX8_measure wsX8_measure) := goodIn_app (goodIn_of _ (by decide +kernel)) ggX8_measures_X8_measure
theorem dX8_measures_0 : decode cX8_measures 0 = .ok (.iload_n 1, 1) := by decide +kernel
theorem dX8_measures_1 : decode cX8_measures 1 = .ok (.iconst 1, 1) := by decide +kernel
theorem dX8_measures_2 : decode cX8_measures 2 = .ok (.sipush 180, 3) := by decide +kernel
theorem dX8_measures_5 : decode cX8_measures 5 = .ok (.invokestatic 45, 3) := by decide +kernel
theorem dX8_measures_8 : decode cX8_measures 8 = .ok (.ifCond .ne 5, 3) := by decide +kernel
theorem dX8_measures_11 : decode cX8_measures 11 = .ok (.iconst (-1), 1) := by decide +kernel
theorem dX8_measures_12 : decode cX8_measures 12 = .ok (.ireturn, 1) := by decide +kernel
theorem dX8_measures_13 : decode cX8_measures 13 = .ok (.aload_n 0, 1) := by decide +kernel
theorem dX8_measures_14 : decode cX8_measures 14 = .ok (.invokevirtual 143, 3) := by decide +kernel
theorem dX8_measures_17 : decode cX8_measures 17 = .ok (.aload_n 0, 1) := by decide +kernel
theorem dX8_measures_18 : decode cX8_measures 18 = .ok (.getfield 32, 3) := by decide +kernel
theorem dX8_measures_21 : decode cX8_measures 21 = .ok (.iload_n 1, 1) := by decide +kernel
theorem dX8_measures_22 : decode cX8_measures 22 = .ok (.baload, 1) := by decide +kernel
theorem dX8_measures_23 : decode cX8_measures 23 = .ok (.ifCond .eq 7, 3) := by decide +kernel
theorem dX8_measures_26 : decode cX8_measures 26 = .ok (.iconst 1, 1) := by decide +kernel
theorem dX8_measures_27 : decode cX8_measures 27 = .ok (.goto 4, 3) := by decide +kernel
theorem dX8_measures_30 : decode cX8_measures 30 = .ok (.iconst 0, 1) := by decide +kernel
theorem dX8_measures_31 : decode cX8_measures 31 = .ok (.ireturn, 1) := by decide +kernel
set_option maxRecDepth 20000 in
theorem ggX8_odds_X8_in : GoodIn wsX8_odds wsX8_in := goodIn_r _ [6] (by decide +kernel) (by decide +kernel)
set_option maxRecDepth 20000 in
theorem gX8_odds_X8_in : GoodIn wsX8_odds (va_wsS RX8 45 yX8_in wsX8_in) := goodIn_app (goodIn_of _ (by decide +kernel)) ggX8_odds_X8_in
set_option maxRecDepth 20000 in
theorem ggX8_odds_X8_folds : GoodIn wsX8_odds wsX8_folds := goodIn_r _ [10, 1, 35, 36, 37, 38, 39, 40, 41, 42, 43, 44, 45, 46, 47, 48, 49, 50, 51, 52, 53, 54, 55, 56] (by decide +kernel) (by decide +kernel)
set_option maxRecDepth 20000 in
theorem gX8_odds_X8_folds : GoodIn wsX8_odds (wsV RX8 135 RX8 yX8_folds wsX8_folds) := goodIn_app (goodIn_of _ (by decide +kernel)) ggX8_odds_X8_folds
set_option maxRecDepth 20000 in
theorem ggX8_odds_X8_isFold : GoodIn wsX8_odds wsX8_isFold := goodIn_r _ [14, 2, 7, 8, 9, 5, 10, 1, 3, 4, 6, 35, 36, 37, 38, 39, 40, 41, 42, 43, 44, 45, 46, 47, 48, 49, 50, 51, 52, 53, 54, 55, 56] (by decide +kernel) (by decide +kernel)
set_option maxRecDepth 20000 in
theorem gX8_odds_X8_isFold : GoodIn wsX8_odds (wsV RX8 139 RX8 yX8_isFold wsX8_isFold) := goodIn_app (goodIn_of _ (by decide +kernel)) ggX8_odds_X8_isFold
set_option maxRecDepth 20000 in
theorem ggX8_odds_X8_has : GoodIn wsX8_odds wsX8_has := goodIn_r _ [17] (by decide +kernel) (by decide +kernel)
set_option maxRecDepth 20000 in
theorem gX8_odds_X8_has : GoodIn wsX8_odds (va_wsS RX8 81 yX8_has wsX8_has) := goodIn_app (goodIn_of _ (by decide +kernel)) ggX8_odds_X8_has
set_option maxRecDepth 20000 in
theorem ggX8_odds_X8_spanBy : GoodIn wsX8_odds wsX8_spanBy := goodIn_r _ [21, 22, 23, 24, 5, 25, 26, 1, 2, 15, 16, 17, 27, 28, 29, 30, 31, 32, 33, 34, 35, 36, 37, 38, 39, 40, 41, 42, 43, 44, 45, 46, 47, 48, 49, 50, 51, 52, 53, 54, 55, 56] (by decide +kernel) (by decide +kernel)
set_option maxRecDepth 20000 in
theorem gX8_odds_X8_spanBy : GoodIn wsX8_odds (wsV RX8 118 RX8 yX8_spanBy wsX8_spanBy) := goodIn_app (goodIn_of _ (by decide +kernel)) ggX8_odds_X8_spanBy
theorem dX8_odds_0 : decode cX8_odds 0 = .ok (.iload_n 1, 1) := by decide +kernel
theorem dX8_odds_1 : decode cX8_odds 1 = .ok (.iconst 0, 1) := by decide +kernel
theorem dX8_odds_2 : decode cX8_odds 2 = .ok (.bipush 10, 2) := by decide +kernel
theorem dX8_odds_4 : decode cX8_odds 4 = .ok (.invokestatic 45, 3) := by decide +kernel
theorem dX8_odds_7 : decode cX8_odds 7 = .ok (.ifCond .eq 23, 3) := by decide +kernel
theorem dX8_odds_10 : decode cX8_odds 10 = .ok (.iload_n 2, 1) := by decide +kernel
theorem dX8_odds_11 : decode cX8_odds 11 = .ok (.iconst 1, 1) := by decide +kernel
theorem dX8_odds_12 : decode cX8_odds 12 = .ok (.sipush 180, 3) := by decide +kernel
theorem dX8_odds_15 : decode cX8_odds 15 = .ok (.invokestatic 45, 3) := by decide +kernel
theorem dX8_odds_18 : decode cX8_odds 18 = .ok (.ifCond .eq 12, 3) := by decide +kernel
theorem dX8_odds_21 : decode cX8_odds 21 = .ok (.iload_n 3, 1) := by decide +kernel
theorem dX8_odds_22 : decode cX8_odds 22 = .ok (.iconst 0, 1) := by decide +kernel
theorem dX8_odds_23 : decode cX8_odds 23 = .ok (.iconst 1, 1) := by decide +kernel
theorem dX8_odds_24 : decode cX8_odds 24 = .ok (.invokestatic 45, 3) := by decide +kernel
theorem dX8_odds_27 : decode cX8_odds 27 = .ok (.ifCond .ne 5, 3) := by decide +kernel
theorem dX8_odds_30 : decode cX8_odds 30 = .ok (.iconst (-1), 1) := by decide +kernel
theorem dX8_odds_31 : decode cX8_odds 31 = .ok (.ireturn, 1) := by decide +kernel
theorem dX8_odds_32 : decode cX8_odds 32 = .ok (.lconst 0, 1) := by decide +kernel
theorem dX8_odds_33 : decode cX8_odds 33 = .ok (.lstore 4, 2) := by decide +kernel
theorem dX8_odds_35 : decode cX8_odds 35 = .ok (.lconst 0, 1) := by decide +kernel
theorem dX8_odds_36 : decode cX8_odds 36 = .ok (.lstore 6, 2) := by decide +kernel
theorem dX8_odds_38 : decode cX8_odds 38 = .ok (.iconst 0, 1) := by decide +kernel
theorem dX8_odds_39 : decode cX8_odds 39 = .ok (.istore 8, 2) := by decide +kernel
theorem dX8_odds_41 : decode cX8_odds 41 = .ok (.iload 8, 2) := by decide +kernel
theorem dX8_odds_43 : decode cX8_odds 43 = .ok (.aload_n 0, 1) := by decide +kernel
theorem dX8_odds_44 : decode cX8_odds 44 = .ok (.invokevirtual 135, 3) := by decide +kernel
theorem dX8_odds_47 : decode cX8_odds 47 = .ok (.if_icmp .ge 113, 3) := by decide +kernel
theorem dX8_odds_50 : decode cX8_odds 50 = .ok (.aload_n 0, 1) := by decide +kernel
theorem dX8_odds_51 : decode cX8_odds 51 = .ok (.iload 8, 2) := by decide +kernel
theorem dX8_odds_53 : decode cX8_odds 53 = .ok (.invokevirtual 139, 3) := by decide +kernel
theorem dX8_odds_56 : decode cX8_odds 56 = .ok (.ifCond .eq 98, 3) := by decide +kernel
theorem dX8_odds_59 : decode cX8_odds 59 = .ok (.lconst 1, 1) := by decide +kernel
theorem dX8_odds_60 : decode cX8_odds 60 = .ok (.lstore 9, 2) := by decide +kernel
theorem dX8_odds_62 : decode cX8_odds 62 = .ok (.iconst 0, 1) := by decide +kernel
theorem dX8_odds_63 : decode cX8_odds 63 = .ok (.istore 11, 2) := by decide +kernel
theorem dX8_odds_65 : decode cX8_odds 65 = .ok (.iload 11, 2) := by decide +kernel
theorem dX8_odds_67 : decode cX8_odds 67 = .ok (.aload_n 0, 1) := by decide +kernel
theorem dX8_odds_68 : decode cX8_odds 68 = .ok (.getfield 41, 3) := by decide +kernel
theorem dX8_odds_71 : decode cX8_odds 71 = .ok (.iconst 1, 1) := by decide +kernel
theorem dX8_odds_72 : decode cX8_odds 72 = .ok (.isub, 1) := by decide +kernel
theorem dX8_odds_73 : decode cX8_odds 73 = .ok (.if_icmp .ge 53, 3) := by decide +kernel
theorem dX8_odds_76 : decode cX8_odds 76 = .ok (.lload 9, 2) := by decide +kernel
theorem dX8_odds_78 : decode cX8_odds 78 = .ok (.aload_n 0, 1) := by decide +kernel
theorem dX8_odds_79 : decode cX8_odds 79 = .ok (.getfield 7, 3) := by decide +kernel
theorem dX8_odds_82 : decode cX8_odds 82 = .ok (.bipush 10, 2) := by decide +kernel
theorem dX8_odds_84 : decode cX8_odds 84 = .ok (.iaload, 1) := by decide +kernel
theorem dX8_odds_85 : decode cX8_odds 85 = .ok (.iload 11, 2) := by decide +kernel
theorem dX8_odds_87 : decode cX8_odds 87 = .ok (.invokestatic 81, 3) := by decide +kernel
theorem dX8_odds_90 : decode cX8_odds 90 = .ok (.ifCond .eq 7, 3) := by decide +kernel
theorem dX8_odds_93 : decode cX8_odds 93 = .ok (.lconst 1, 1) := by decide +kernel
theorem dX8_odds_94 : decode cX8_odds 94 = .ok (.goto 23, 3) := by decide +kernel
theorem dX8_odds_97 : decode cX8_odds 97 = .ok (.iload 8, 2) := by decide +kernel
theorem dX8_odds_99 : decode cX8_odds 99 = .ok (.iload 11, 2) := by decide +kernel
theorem dX8_odds_101 : decode cX8_odds 101 = .ok (.invokestatic 81, 3) := by decide +kernel
theorem dX8_odds_104 : decode cX8_odds 104 = .ok (.ifCond .eq 8, 3) := by decide +kernel
theorem dX8_odds_107 : decode cX8_odds 107 = .ok (.iload_n 1, 1) := by decide +kernel
theorem dX8_odds_108 : decode cX8_odds 108 = .ok (.i2l, 1) := by decide +kernel
theorem dX8_odds_109 : decode cX8_odds 109 = .ok (.goto 8, 3) := by decide +kernel
theorem dX8_odds_112 : decode cX8_odds 112 = .ok (.bipush 10, 2) := by decide +kernel
theorem dX8_odds_114 : decode cX8_odds 114 = .ok (.iload_n 1, 1) := by decide +kernel
theorem dX8_odds_115 : decode cX8_odds 115 = .ok (.isub, 1) := by decide +kernel
theorem dX8_odds_116 : decode cX8_odds 116 = .ok (.i2l, 1) := by decide +kernel
theorem dX8_odds_117 : decode cX8_odds 117 = .ok (.lmul, 1) := by decide +kernel
theorem dX8_odds_118 : decode cX8_odds 118 = .ok (.lstore 9, 2) := by decide +kernel
theorem dX8_odds_120 : decode cX8_odds 120 = .ok (.iinc 11 1, 3) := by decide +kernel
theorem dX8_odds_123 : decode cX8_odds 123 = .ok (.goto (-58), 3) := by decide +kernel
theorem dX8_odds_126 : decode cX8_odds 126 = .ok (.lload 4, 2) := by decide +kernel
theorem dX8_odds_128 : decode cX8_odds 128 = .ok (.aload_n 0, 1) := by decide +kernel
theorem dX8_odds_129 : decode cX8_odds 129 = .ok (.iload 8, 2) := by decide +kernel
theorem dX8_odds_131 : decode cX8_odds 131 = .ok (.invokevirtual 118, 3) := by decide +kernel
theorem dX8_odds_134 : decode cX8_odds 134 = .ok (.iload_n 2, 1) := by decide +kernel
theorem dX8_odds_135 : decode cX8_odds 135 = .ok (.if_icmp .gt 8, 3) := by decide +kernel
theorem dX8_odds_138 : decode cX8_odds 138 = .ok (.lload 9, 2) := by decide +kernel
theorem dX8_odds_140 : decode cX8_odds 140 = .ok (.goto 4, 3) := by decide +kernel
theorem dX8_odds_143 : decode cX8_odds 143 = .ok (.lconst 0, 1) := by decide +kernel
theorem dX8_odds_144 : decode cX8_odds 144 = .ok (.ladd, 1) := by decide +kernel
theorem dX8_odds_145 : decode cX8_odds 145 = .ok (.lstore 4, 2) := by decide +kernel
theorem dX8_odds_147 : decode cX8_odds 147 = .ok (.lload 6, 2) := by decide +kernel
theorem dX8_odds_149 : decode cX8_odds 149 = .ok (.lload 9, 2) := by decide +kernel
theorem dX8_odds_151 : decode cX8_odds 151 = .ok (.ladd, 1) := by decide +kernel
theorem dX8_odds_152 : decode cX8_odds 152 = .ok (.lstore 6, 2) := by decide +kernel
theorem dX8_odds_154 : decode cX8_odds 154 = .ok (.iinc 8 1, 3) := by decide +kernel
theorem dX8_odds_157 : decode cX8_odds 157 = .ok (.goto (-116), 3) := by decide +kernel
theorem dX8_odds_160 : decode cX8_odds 160 = .ok (.lload 4, 2) := by decide +kernel
theorem dX8_odds_162 : decode cX8_odds 162 = .ok (.lstore 8, 2) := by decide +kernel
theorem dX8_odds_164 : decode cX8_odds 164 = .ok (.lload 6, 2) := by decide +kernel
theorem dX8_odds_166 : decode cX8_odds 166 = .ok (.lstore 10, 2) := by decide +kernel
theorem dX8_odds_168 : decode cX8_odds 168 = .ok (.lload 10, 2) := by decide +kernel
theorem dX8_odds_170 : decode cX8_odds 170 = .ok (.lconst 0, 1) := by decide +kernel
theorem dX8_odds_171 : decode cX8_odds 171 = .ok (.lcmp, 1) := by decide +kernel
theorem dX8_odds_172 : decode cX8_odds 172 = .ok (.ifCond .eq 21, 3) := by decide +kernel
theorem dX8_odds_175 : decode cX8_odds 175 = .ok (.lload 8, 2) := by decide +kernel
theorem dX8_odds_177 : decode cX8_odds 177 = .ok (.lload 10, 2) := by decide +kernel
theorem dX8_odds_179 : decode cX8_odds 179 = .ok (.lrem, 1) := by decide +kernel
theorem dX8_odds_180 : decode cX8_odds 180 = .ok (.lstore 12, 2) := by decide +kernel
theorem dX8_odds_182 : decode cX8_odds 182 = .ok (.lload 10, 2) := by decide +kernel
theorem dX8_odds_184 : decode cX8_odds 184 = .ok (.lstore 8, 2) := by decide +kernel
theorem dX8_odds_186 : decode cX8_odds 186 = .ok (.lload 12, 2) := by decide +kernel
theorem dX8_odds_188 : decode cX8_odds 188 = .ok (.lstore 10, 2) := by decide +kernel
theorem dX8_odds_190 : decode cX8_odds 190 = .ok (.goto (-22), 3) := by decide +kernel
theorem dX8_odds_193 : decode cX8_odds 193 = .ok (.iload_n 3, 1) := by decide +kernel
theorem dX8_odds_194 : decode cX8_odds 194 = .ok (.ifCond .ne 11, 3) := by decide +kernel
theorem dX8_odds_197 : decode cX8_odds 197 = .ok (.lload 4, 2) := by decide +kernel
theorem dX8_odds_199 : decode cX8_odds 199 = .ok (.lload 8, 2) := by decide +kernel
theorem dX8_odds_201 : decode cX8_odds 201 = .ok (.ldiv, 1) := by decide +kernel
theorem dX8_odds_202 : decode cX8_odds 202 = .ok (.goto 8, 3) := by decide +kernel
theorem dX8_odds_205 : decode cX8_odds 205 = .ok (.lload 6, 2) := by decide +kernel
theorem dX8_odds_207 : decode cX8_odds 207 = .ok (.lload 8, 2) := by decide +kernel
theorem dX8_odds_209 : decode cX8_odds 209 = .ok (.ldiv, 1) := by decide +kernel
theorem dX8_odds_210 : decode cX8_odds 210 = .ok (.l2i, 1) := by decide +kernel
theorem dX8_odds_211 : decode cX8_odds 211 = .ok (.ireturn, 1) := by decide +kernel
set_option maxRecDepth 20000 in
theorem ggX8_sees_X8_isFold : GoodIn wsX8_sees wsX8_isFold := goodIn_r _ [8, 9, 10, 11, 12, 7, 13, 14, 15, 16, 17, 18, 19, 20, 21, 22, 23, 24, 25, 26, 27, 28, 29, 30, 31, 32, 33, 34, 35, 36, 37, 38, 39] (by decide +kernel) (by decide +kernel)
set_option maxRecDepth 20000 in
theorem gX8_sees_X8_isFold : GoodIn wsX8_sees (wsV RX8 139 RX8 yX8_isFold wsX8_isFold) := goodIn_app (goodIn_of _ (by decide +kernel)) ggX8_sees_X8_isFold
set_option maxRecDepth 20000 in
theorem ggX8_sees_X8_in : GoodIn wsX8_sees wsX8_in := goodIn_r _ [17] (by decide +kernel) (by decide +kernel)
set_option maxRecDepth 20000 in
theorem gX8_sees_X8_in : GoodIn wsX8_sees (va_wsS RX8 45 yX8_in wsX8_in) := goodIn_app (goodIn_of _ (by decide +kernel)) ggX8_sees_X8_in
theorem dX8_sees_0 : decode cX8_sees 0 = .ok (.aload_n 0, 1) := by decide +kernel
theorem dX8_sees_1 : decode cX8_sees 1 = .ok (.iload_n 1, 1) := by decide +kernel
theorem dX8_sees_2 : decode cX8_sees 2 = .ok (.invokevirtual 139, 3) := by decide +kernel
theorem dX8_sees_5 : decode cX8_sees 5 = .ok (.ifCond .eq 14, 3) := by decide +kernel
theorem dX8_sees_8 : decode cX8_sees 8 = .ok (.iload_n 2, 1) := by decide +kernel
theorem dX8_sees_9 : decode cX8_sees 9 = .ok (.iconst 0, 1) := by decide +kernel
theorem dX8_sees_10 : decode cX8_sees 10 = .ok (.sipush 180, 3) := by decide +kernel
theorem dX8_sees_13 : decode cX8_sees 13 = .ok (.invokestatic 45, 3) := by decide +kernel
theorem dX8_sees_16 : decode cX8_sees 16 = .ok (.ifCond .ne 5, 3) := by decide +kernel
theorem dX8_sees_19 : decode cX8_sees 19 = .ok (.iconst (-1), 1) := by decide +kernel
theorem dX8_sees_20 : decode cX8_sees 20 = .ok (.ireturn, 1) := by decide +kernel
theorem dX8_sees_21 : decode cX8_sees 21 = .ok (.aload_n 0, 1) := by decide +kernel
theorem dX8_sees_22 : decode cX8_sees 22 = .ok (.getfield 105, 3) := by decide +kernel
theorem dX8_sees_25 : decode cX8_sees 25 = .ok (.bipush 6, 2) := by decide +kernel
theorem dX8_sees_27 : decode cX8_sees 27 = .ok (.if_icmp .ne 6, 3) := by decide +kernel
theorem dX8_sees_30 : decode cX8_sees 30 = .ok (.bipush (-3), 2) := by decide +kernel
theorem dX8_sees_32 : decode cX8_sees 32 = .ok (.ireturn, 1) := by decide +kernel
theorem dX8_sees_33 : decode cX8_sees 33 = .ok (.aload_n 0, 1) := by decide +kernel
theorem dX8_sees_34 : decode cX8_sees 34 = .ok (.getfield 20, 3) := by decide +kernel
theorem dX8_sees_37 : decode cX8_sees 37 = .ok (.aload_n 0, 1) := by decide +kernel
theorem dX8_sees_38 : decode cX8_sees 38 = .ok (.getfield 105, 3) := by decide +kernel
theorem dX8_sees_41 : decode cX8_sees 41 = .ok (.iload_n 1, 1) := by decide +kernel
theorem dX8_sees_42 : decode cX8_sees 42 = .ok (.iastore, 1) := by decide +kernel
theorem dX8_sees_43 : decode cX8_sees 43 = .ok (.aload_n 0, 1) := by decide +kernel
theorem dX8_sees_44 : decode cX8_sees 44 = .ok (.getfield 23, 3) := by decide +kernel
theorem dX8_sees_47 : decode cX8_sees 47 = .ok (.aload_n 0, 1) := by decide +kernel
theorem dX8_sees_48 : decode cX8_sees 48 = .ok (.getfield 105, 3) := by decide +kernel
theorem dX8_sees_51 : decode cX8_sees 51 = .ok (.iload_n 2, 1) := by decide +kernel
theorem dX8_sees_52 : decode cX8_sees 52 = .ok (.iastore, 1) := by decide +kernel
theorem dX8_sees_53 : decode cX8_sees 53 = .ok (.aload_n 0, 1) := by decide +kernel
theorem dX8_sees_54 : decode cX8_sees 54 = .ok (.dup, 1) := by decide +kernel
theorem dX8_sees_55 : decode cX8_sees 55 = .ok (.getfield 105, 3) := by decide +kernel
theorem dX8_sees_58 : decode cX8_sees 58 = .ok (.iconst 1, 1) := by decide +kernel
theorem dX8_sees_59 : decode cX8_sees 59 = .ok (.iadd, 1) := by decide +kernel
theorem dX8_sees_60 : decode cX8_sees 60 = .ok (.putfield 105, 3) := by decide +kernel
theorem dX8_sees_63 : decode cX8_sees 63 = .ok (.aload_n 0, 1) := by decide +kernel
theorem dX8_sees_64 : decode cX8_sees 64 = .ok (.getfield 105, 3) := by decide +kernel
theorem dX8_sees_67 : decode cX8_sees 67 = .ok (.ireturn, 1) := by decide +kernel
theorem dX8_forget_0 : decode cX8_forget 0 = .ok (.aload_n 0, 1) := by decide +kernel
theorem dX8_forget_1 : decode cX8_forget 1 = .ok (.getfield 105, 3) := by decide +kernel
theorem dX8_forget_4 : decode cX8_forget 4 = .ok (.istore_n 1, 1) := by decide +kernel
theorem dX8_forget_5 : decode cX8_forget 5 = .ok (.aload_n 0, 1) := by decide +kernel
theorem dX8_forget_6 : decode cX8_forget 6 = .ok (.iconst 0, 1) := by decide +kernel
theorem dX8_forget_7 : decode cX8_forget 7 = .ok (.putfield 105, 3) := by decide +kernel
theorem dX8_forget_10 : decode cX8_forget 10 = .ok (.iload_n 1, 1) := by decide +kernel
theorem dX8_forget_11 : decode cX8_forget 11 = .ok (.ireturn, 1) := by decide +kernel
set_option maxRecDepth 20000 in
theorem ggX8_spanFiled_X8_lies : GoodIn wsX8_spanFiled wsX8_lies := goodIn_r _ [5, 6, 7, 8, 9, 10, 4, 11, 20, 21, 22, 23, 24, 25, 26, 27, 28, 29, 30, 31, 32, 33, 34, 35, 36, 37, 38, 39, 40, 41] (by decide +kernel) (by decide +kernel)
set_option maxRecDepth 20000 in
theorem gX8_spanFiled_X8_lies : GoodIn wsX8_spanFiled (wsV RX8 111 RX8 yX8_lies wsX8_lies) := goodIn_app (goodIn_of _ (by decide +kernel)) ggX8_spanFiled_X8_lies
set_option maxRecDepth 20000 in
theorem ggX8_spanFiled_X8_spanNow : GoodIn wsX8_spanFiled wsX8_spanNow := goodIn_r _ [15, 7, 6, 16, 17, 18, 4, 19, 20, 21, 22, 23, 24, 25, 26, 27, 28, 29, 30, 31, 32, 33, 34, 35, 36, 37, 38, 39, 40, 41] (by decide +kernel) (by decide +kernel)
set_option maxRecDepth 20000 in
theorem gX8_spanFiled_X8_spanNow : GoodIn wsX8_spanFiled (wsV RX8 115 RX8 yX8_spanNow wsX8_spanNow) := goodIn_app (goodIn_of _ (by decide +kernel)) ggX8_spanFiled_X8_spanNow
theorem dX8_spanFiled_0 : decode cX8_spanFiled 0 = .ok (.aload_n 0, 1) := by decide +kernel
theorem dX8_spanFiled_1 : decode cX8_spanFiled 1 = .ok (.iload_n 1, 1) := by decide +kernel
theorem dX8_spanFiled_2 : decode cX8_spanFiled 2 = .ok (.iload_n 2, 1) := by decide +kernel
theorem dX8_spanFiled_3 : decode cX8_spanFiled 3 = .ok (.iload_n 3, 1) := by decide +kernel
theorem dX8_spanFiled_4 : decode cX8_spanFiled 4 = .ok (.invokevirtual 111, 3) := by decide +kernel
theorem dX8_spanFiled_7 : decode cX8_spanFiled 7 = .ok (.aload_n 0, 1) := by decide +kernel
theorem dX8_spanFiled_8 : decode cX8_spanFiled 8 = .ok (.invokevirtual 115, 3) := by decide +kernel
theorem dX8_spanFiled_11 : decode cX8_spanFiled 11 = .ok (.ireturn, 1) := by decide +kernel
set_option maxRecDepth 20000 in
theorem ggX8_isWay_X8_spanFiled : GoodIn wsX8_isWay wsX8_spanFiled := goodIn_r _ [9, 10, 11, 12, 8, 13, 14, 15, 1, 16, 17, 18, 19, 20, 21, 22, 23, 24, 25, 26, 27, 28, 29, 30, 31, 32, 33, 34, 35, 36, 37, 38, 39, 40, 41, 42, 43, 44, 45, 46, 47, 48] (by decide +kernel) (by decide +kernel)
set_option maxRecDepth 20000 in
theorem gX8_isWay_X8_spanFiled : GoodIn wsX8_isWay (wsV RX8 171 RX8 yX8_spanFiled wsX8_spanFiled) := goodIn_app (goodIn_of _ (by decide +kernel)) ggX8_isWay_X8_spanFiled
theorem dX8_isWay_0 : decode cX8_isWay 0 = .ok (.aload_n 0, 1) := by decide +kernel
theorem dX8_isWay_1 : decode cX8_isWay 1 = .ok (.getfield 7, 3) := by decide +kernel
theorem dX8_isWay_4 : decode cX8_isWay 4 = .ok (.iconst 0, 1) := by decide +kernel
theorem dX8_isWay_5 : decode cX8_isWay 5 = .ok (.iload_n 1, 1) := by decide +kernel
theorem dX8_isWay_6 : decode cX8_isWay 6 = .ok (.iadd, 1) := by decide +kernel
theorem dX8_isWay_7 : decode cX8_isWay 7 = .ok (.iaload, 1) := by decide +kernel
theorem dX8_isWay_8 : decode cX8_isWay 8 = .ok (.iload_n 2, 1) := by decide +kernel
theorem dX8_isWay_9 : decode cX8_isWay 9 = .ok (.isub, 1) := by decide +kernel
theorem dX8_isWay_10 : decode cX8_isWay 10 = .ok (.ifCond .le 7, 3) := by decide +kernel
theorem dX8_isWay_13 : decode cX8_isWay 13 = .ok (.iconst 1, 1) := by decide +kernel
theorem dX8_isWay_14 : decode cX8_isWay 14 = .ok (.goto 4, 3) := by decide +kernel
theorem dX8_isWay_17 : decode cX8_isWay 17 = .ok (.iconst 0, 1) := by decide +kernel
theorem dX8_isWay_18 : decode cX8_isWay 18 = .ok (.istore_n 3, 1) := by decide +kernel
theorem dX8_isWay_19 : decode cX8_isWay 19 = .ok (.iconst 0, 1) := by decide +kernel
theorem dX8_isWay_20 : decode cX8_isWay 20 = .ok (.istore 4, 2) := by decide +kernel
theorem dX8_isWay_22 : decode cX8_isWay 22 = .ok (.iload 4, 2) := by decide +kernel
theorem dX8_isWay_24 : decode cX8_isWay 24 = .ok (.aload_n 0, 1) := by decide +kernel
theorem dX8_isWay_25 : decode cX8_isWay 25 = .ok (.getfield 105, 3) := by decide +kernel
theorem dX8_isWay_28 : decode cX8_isWay 28 = .ok (.if_icmp .ge 42, 3) := by decide +kernel
theorem dX8_isWay_31 : decode cX8_isWay 31 = .ok (.iload_n 3, 1) := by decide +kernel
theorem dX8_isWay_32 : decode cX8_isWay 32 = .ok (.ifCond .eq 38, 3) := by decide +kernel
theorem dX8_isWay_35 : decode cX8_isWay 35 = .ok (.aload_n 0, 1) := by decide +kernel
theorem dX8_isWay_36 : decode cX8_isWay 36 = .ok (.aload_n 0, 1) := by decide +kernel
theorem dX8_isWay_37 : decode cX8_isWay 37 = .ok (.getfield 20, 3) := by decide +kernel
theorem dX8_isWay_40 : decode cX8_isWay 40 = .ok (.iload 4, 2) := by decide +kernel
theorem dX8_isWay_42 : decode cX8_isWay 42 = .ok (.iaload, 1) := by decide +kernel
theorem dX8_isWay_43 : decode cX8_isWay 43 = .ok (.iload_n 1, 1) := by decide +kernel
theorem dX8_isWay_44 : decode cX8_isWay 44 = .ok (.iload_n 2, 1) := by decide +kernel
theorem dX8_isWay_45 : decode cX8_isWay 45 = .ok (.invokevirtual 171, 3) := by decide +kernel
theorem dX8_isWay_48 : decode cX8_isWay 48 = .ok (.aload_n 0, 1) := by decide +kernel
theorem dX8_isWay_49 : decode cX8_isWay 49 = .ok (.getfield 23, 3) := by decide +kernel
theorem dX8_isWay_52 : decode cX8_isWay 52 = .ok (.iload 4, 2) := by decide +kernel
theorem dX8_isWay_54 : decode cX8_isWay 54 = .ok (.iaload, 1) := by decide +kernel
theorem dX8_isWay_55 : decode cX8_isWay 55 = .ok (.if_icmp .ne 7, 3) := by decide +kernel
theorem dX8_isWay_58 : decode cX8_isWay 58 = .ok (.iconst 1, 1) := by decide +kernel
theorem dX8_isWay_59 : decode cX8_isWay 59 = .ok (.goto 4, 3) := by decide +kernel
theorem dX8_isWay_62 : decode cX8_isWay 62 = .ok (.iconst 0, 1) := by decide +kernel
theorem dX8_isWay_63 : decode cX8_isWay 63 = .ok (.istore_n 3, 1) := by decide +kernel
theorem dX8_isWay_64 : decode cX8_isWay 64 = .ok (.iinc 4 1, 3) := by decide +kernel
theorem dX8_isWay_67 : decode cX8_isWay 67 = .ok (.goto (-45), 3) := by decide +kernel
theorem dX8_isWay_70 : decode cX8_isWay 70 = .ok (.iload_n 3, 1) := by decide +kernel
theorem dX8_isWay_71 : decode cX8_isWay 71 = .ok (.ireturn, 1) := by decide +kernel
set_option maxRecDepth 20000 in
theorem ggX8_layWays_X8_isWay : GoodIn wsX8_layWays wsX8_isWay := goodIn_r _ [8, 9, 10, 11, 12, 13, 14, 15, 7, 16, 17, 18, 19, 20, 21, 2, 22, 23, 24, 25, 26, 27, 28, 29, 30, 31, 32, 33, 34, 35, 36, 37, 38, 39, 40, 41, 42, 43, 44, 45, 46, 47, 48, 49, 50, 51, 52, 53, 54] (by decide +kernel) (by decide +kernel)
set_option maxRecDepth 20000 in
theorem gX8_layWays_X8_isWay : GoodIn wsX8_layWays (wsV RX8 178 RX8 yX8_isWay wsX8_isWay) := goodIn_app (goodIn_of _ (by decide +kernel)) ggX8_layWays_X8_isWay
theorem dX8_layWays_0 : decode cX8_layWays 0 = .ok (.aload_n 0, 1) := by decide +kernel
theorem dX8_layWays_1 : decode cX8_layWays 1 = .ok (.iconst 0, 1) := by decide +kernel
theorem dX8_layWays_2 : decode cX8_layWays 2 = .ok (.putfield 175, 3) := by decide +kernel
theorem dX8_layWays_5 : decode cX8_layWays 5 = .ok (.iconst 0, 1) := by decide +kernel
theorem dX8_layWays_6 : decode cX8_layWays 6 = .ok (.istore_n 1, 1) := by decide +kernel
theorem dX8_layWays_7 : decode cX8_layWays 7 = .ok (.iload_n 1, 1) := by decide +kernel
theorem dX8_layWays_8 : decode cX8_layWays 8 = .ok (.bipush 9, 2) := by decide +kernel
theorem dX8_layWays_10 : decode cX8_layWays 10 = .ok (.aload_n 0, 1) := by decide +kernel
theorem dX8_layWays_11 : decode cX8_layWays 11 = .ok (.getfield 41, 3) := by decide +kernel
theorem dX8_layWays_14 : decode cX8_layWays 14 = .ok (.imul, 1) := by decide +kernel
theorem dX8_layWays_15 : decode cX8_layWays 15 = .ok (.if_icmp .ge 59, 3) := by decide +kernel
theorem dX8_layWays_18 : decode cX8_layWays 18 = .ok (.aload_n 0, 1) := by decide +kernel
theorem dX8_layWays_19 : decode cX8_layWays 19 = .ok (.iload_n 1, 1) := by decide +kernel
theorem dX8_layWays_20 : decode cX8_layWays 20 = .ok (.bipush 9, 2) := by decide +kernel
theorem dX8_layWays_22 : decode cX8_layWays 22 = .ok (.idiv, 1) := by decide +kernel
theorem dX8_layWays_23 : decode cX8_layWays 23 = .ok (.iconst 1, 1) := by decide +kernel
theorem dX8_layWays_24 : decode cX8_layWays 24 = .ok (.iload_n 1, 1) := by decide +kernel
theorem dX8_layWays_25 : decode cX8_layWays 25 = .ok (.bipush 9, 2) := by decide +kernel
theorem dX8_layWays_27 : decode cX8_layWays 27 = .ok (.irem, 1) := by decide +kernel
theorem dX8_layWays_28 : decode cX8_layWays 28 = .ok (.iadd, 1) := by decide +kernel
theorem dX8_layWays_29 : decode cX8_layWays 29 = .ok (.invokevirtual 178, 3) := by decide +kernel
theorem dX8_layWays_32 : decode cX8_layWays 32 = .ok (.ifCond .eq 36, 3) := by decide +kernel
theorem dX8_layWays_35 : decode cX8_layWays 35 = .ok (.aload_n 0, 1) := by decide +kernel
theorem dX8_layWays_36 : decode cX8_layWays 36 = .ok (.getfield 35, 3) := by decide +kernel
theorem dX8_layWays_39 : decode cX8_layWays 39 = .ok (.aload_n 0, 1) := by decide +kernel
theorem dX8_layWays_40 : decode cX8_layWays 40 = .ok (.getfield 175, 3) := by decide +kernel
theorem dX8_layWays_43 : decode cX8_layWays 43 = .ok (.bipush 10, 2) := by decide +kernel
theorem dX8_layWays_45 : decode cX8_layWays 45 = .ok (.iload_n 1, 1) := by decide +kernel
theorem dX8_layWays_46 : decode cX8_layWays 46 = .ok (.bipush 9, 2) := by decide +kernel
theorem dX8_layWays_48 : decode cX8_layWays 48 = .ok (.idiv, 1) := by decide +kernel
theorem dX8_layWays_49 : decode cX8_layWays 49 = .ok (.imul, 1) := by decide +kernel
theorem dX8_layWays_50 : decode cX8_layWays 50 = .ok (.iconst 1, 1) := by decide +kernel
theorem dX8_layWays_51 : decode cX8_layWays 51 = .ok (.iadd, 1) := by decide +kernel
theorem dX8_layWays_52 : decode cX8_layWays 52 = .ok (.iload_n 1, 1) := by decide +kernel
theorem dX8_layWays_53 : decode cX8_layWays 53 = .ok (.bipush 9, 2) := by decide +kernel
theorem dX8_layWays_55 : decode cX8_layWays 55 = .ok (.irem, 1) := by decide +kernel
theorem dX8_layWays_56 : decode cX8_layWays 56 = .ok (.iadd, 1) := by decide +kernel
theorem dX8_layWays_57 : decode cX8_layWays 57 = .ok (.iastore, 1) := by decide +kernel
theorem dX8_layWays_58 : decode cX8_layWays 58 = .ok (.aload_n 0, 1) := by decide +kernel
theorem dX8_layWays_59 : decode cX8_layWays 59 = .ok (.dup, 1) := by decide +kernel
theorem dX8_layWays_60 : decode cX8_layWays 60 = .ok (.getfield 175, 3) := by decide +kernel
theorem dX8_layWays_63 : decode cX8_layWays 63 = .ok (.iconst 1, 1) := by decide +kernel
theorem dX8_layWays_64 : decode cX8_layWays 64 = .ok (.iadd, 1) := by decide +kernel
theorem dX8_layWays_65 : decode cX8_layWays 65 = .ok (.putfield 175, 3) := by decide +kernel
theorem dX8_layWays_68 : decode cX8_layWays 68 = .ok (.iinc 1 1, 3) := by decide +kernel
theorem dX8_layWays_71 : decode cX8_layWays 71 = .ok (.goto (-64), 3) := by decide +kernel
theorem dX8_layWays_74 : decode cX8_layWays 74 = .ok (.return_, 1) := by decide +kernel
set_option maxRecDepth 20000 in
theorem ggX8_ways_X8_in : GoodIn wsX8_ways wsX8_in := goodIn_r _ [6] (by decide +kernel) (by decide +kernel)
set_option maxRecDepth 20000 in
theorem gX8_ways_X8_in : GoodIn wsX8_ways (va_wsS RX8 45 yX8_in wsX8_in) := goodIn_app (goodIn_of _ (by decide +kernel)) ggX8_ways_X8_in
set_option maxRecDepth 20000 in
theorem ggX8_ways_X8_layWays : GoodIn wsX8_ways wsX8_layWays := goodIn_r _ [10, 1, 11, 2, 12, 13, 14, 5, 15, 16, 17, 18, 19, 20, 21, 22, 23, 24, 25, 26, 27, 28, 29, 30, 31, 32, 33, 34, 35, 36, 37, 38, 39, 40, 41, 42, 43, 44, 45, 46, 47, 48, 49, 50, 51, 52, 53, 54, 55, 56, 57, 58, 59, 60, 61] (by decide +kernel) (by decide +kernel)
set_option maxRecDepth 20000 in
theorem gX8_ways_X8_layWays : GoodIn wsX8_ways (wsV RX8 181 RX8 yX8_layWays wsX8_layWays) := goodIn_app (goodIn_of _ (by decide +kernel)) ggX8_ways_X8_layWays
theorem dX8_ways_0 : decode cX8_ways 0 = .ok (.iload_n 1, 1) := by decide +kernel
theorem dX8_ways_1 : decode cX8_ways 1 = .ok (.iconst 0, 1) := by decide +kernel
theorem dX8_ways_2 : decode cX8_ways 2 = .ok (.iconst 1, 1) := by decide +kernel
theorem dX8_ways_3 : decode cX8_ways 3 = .ok (.invokestatic 45, 3) := by decide +kernel
theorem dX8_ways_6 : decode cX8_ways 6 = .ok (.ifCond .ne 5, 3) := by decide +kernel
theorem dX8_ways_9 : decode cX8_ways 9 = .ok (.iconst (-1), 1) := by decide +kernel
theorem dX8_ways_10 : decode cX8_ways 10 = .ok (.ireturn, 1) := by decide +kernel
theorem dX8_ways_11 : decode cX8_ways 11 = .ok (.aload_n 0, 1) := by decide +kernel
theorem dX8_ways_12 : decode cX8_ways 12 = .ok (.invokevirtual 181, 3) := by decide +kernel
theorem dX8_ways_15 : decode cX8_ways 15 = .ok (.iload_n 1, 1) := by decide +kernel
theorem dX8_ways_16 : decode cX8_ways 16 = .ok (.ifCond .ne 10, 3) := by decide +kernel
theorem dX8_ways_19 : decode cX8_ways 19 = .ok (.aload_n 0, 1) := by decide +kernel
theorem dX8_ways_20 : decode cX8_ways 20 = .ok (.getfield 175, 3) := by decide +kernel
theorem dX8_ways_23 : decode cX8_ways 23 = .ok (.goto 21, 3) := by decide +kernel
theorem dX8_ways_26 : decode cX8_ways 26 = .ok (.aload_n 0, 1) := by decide +kernel
theorem dX8_ways_27 : decode cX8_ways 27 = .ok (.getfield 175, 3) := by decide +kernel
theorem dX8_ways_30 : decode cX8_ways 30 = .ok (.ifCond .ne 8, 3) := by decide +kernel
theorem dX8_ways_33 : decode cX8_ways 33 = .ok (.bipush (-9), 2) := by decide +kernel
theorem dX8_ways_35 : decode cX8_ways 35 = .ok (.goto 9, 3) := by decide +kernel
theorem dX8_ways_38 : decode cX8_ways 38 = .ok (.aload_n 0, 1) := by decide +kernel
theorem dX8_ways_39 : decode cX8_ways 39 = .ok (.getfield 35, 3) := by decide +kernel
theorem dX8_ways_42 : decode cX8_ways 42 = .ok (.iconst 0, 1) := by decide +kernel
theorem dX8_ways_43 : decode cX8_ways 43 = .ok (.iaload, 1) := by decide +kernel
theorem dX8_ways_44 : decode cX8_ways 44 = .ok (.ireturn, 1) := by decide +kernel
set_option maxRecDepth 20000 in
theorem ggX8_next_X8_layWays : GoodIn wsX8_next wsX8_layWays := goodIn_r _ [9, 2, 10, 4, 11, 12, 13, 8, 14, 15, 16, 17, 18, 19, 20, 21, 22, 23, 24, 25, 26, 27, 28, 29, 30, 31, 32, 33, 34, 35, 36, 37, 38, 50, 51, 52, 53, 54, 55, 56, 57, 58, 59, 60, 61, 62, 63, 64, 65, 66, 67, 68, 69, 70, 71] (by decide +kernel) (by decide +kernel)
set_option maxRecDepth 20000 in
theorem gX8_next_X8_layWays : GoodIn wsX8_next (wsV RX8 181 RX8 yX8_layWays wsX8_layWays) := goodIn_app (goodIn_of _ (by decide +kernel)) ggX8_next_X8_layWays
set_option maxRecDepth 20000 in
theorem ggX8_next_X8_folds : GoodIn wsX8_next wsX8_folds := goodIn_r _ [42, 10, 50, 51, 52, 53, 54, 55, 56, 57, 58, 59, 60, 61, 62, 63, 64, 65, 66, 67, 68, 69, 70, 71] (by decide +kernel) (by decide +kernel)
set_option maxRecDepth 20000 in
theorem gX8_next_X8_folds : GoodIn wsX8_next (wsV RX8 135 RX8 yX8_folds wsX8_folds) := goodIn_app (goodIn_of _ (by decide +kernel)) ggX8_next_X8_folds
set_option maxRecDepth 20000 in
theorem ggX8_next_X8_isFold : GoodIn wsX8_next wsX8_isFold := goodIn_r _ [46, 15, 39, 40, 41, 8, 42, 10, 47, 48, 49, 50, 51, 52, 53, 54, 55, 56, 57, 58, 59, 60, 61, 62, 63, 64, 65, 66, 67, 68, 69, 70, 71] (by decide +kernel) (by decide +kernel)
set_option maxRecDepth 20000 in
theorem gX8_next_X8_isFold : GoodIn wsX8_next (wsV RX8 139 RX8 yX8_isFold wsX8_isFold) := goodIn_app (goodIn_of _ (by decide +kernel)) ggX8_next_X8_isFold
set_option maxRecDepth 20000 in
theorem ggX8_next_X8_spanFiled : GoodIn wsX8_next wsX8_spanFiled := goodIn_r _ [22, 23, 24, 25, 8, 26, 27, 10, 15, 28, 29, 30, 31, 32, 33, 34, 35, 36, 37, 38, 50, 51, 52, 53, 54, 55, 56, 57, 58, 59, 60, 61, 62, 63, 64, 65, 66, 67, 68, 69, 70, 71] (by decide +kernel) (by decide +kernel)
set_option maxRecDepth 20000 in
theorem gX8_next_X8_spanFiled : GoodIn wsX8_next (wsV RX8 171 RX8 yX8_spanFiled wsX8_spanFiled) := goodIn_app (goodIn_of _ (by decide +kernel)) ggX8_next_X8_spanFiled
theorem dX8_next_0 : decode cX8_next 0 = .ok (.aload_n 0, 1) := by decide +kernel
theorem dX8_next_1 : decode cX8_next 1 = .ok (.invokevirtual 181, 3) := by decide +kernel
theorem dX8_next_4 : decode cX8_next 4 = .ok (.bipush (-9), 2) := by decide +kernel
theorem dX8_next_6 : decode cX8_next 6 = .ok (.istore_n 1, 1) := by decide +kernel
theorem dX8_next_7 : decode cX8_next 7 = .ok (.ldc 138, 2) := by decide +kernel
theorem dX8_next_9 : decode cX8_next 9 = .ok (.istore_n 2, 1) := by decide +kernel
theorem dX8_next_10 : decode cX8_next 10 = .ok (.iconst 0, 1) := by decide +kernel
theorem dX8_next_11 : decode cX8_next 11 = .ok (.istore_n 3, 1) := by decide +kernel
theorem dX8_next_12 : decode cX8_next 12 = .ok (.iload_n 3, 1) := by decide +kernel
theorem dX8_next_13 : decode cX8_next 13 = .ok (.aload_n 0, 1) := by decide +kernel
theorem dX8_next_14 : decode cX8_next 14 = .ok (.invokevirtual 135, 3) := by decide +kernel
theorem dX8_next_17 : decode cX8_next 17 = .ok (.if_icmp .ge 172, 3) := by decide +kernel
theorem dX8_next_20 : decode cX8_next 20 = .ok (.aload_n 0, 1) := by decide +kernel
theorem dX8_next_21 : decode cX8_next 21 = .ok (.getfield 175, 3) := by decide +kernel
theorem dX8_next_24 : decode cX8_next 24 = .ok (.iconst 1, 1) := by decide +kernel
theorem dX8_next_25 : decode cX8_next 25 = .ok (.if_icmp .le 164, 3) := by decide +kernel
theorem dX8_next_28 : decode cX8_next 28 = .ok (.aload_n 0, 1) := by decide +kernel
theorem dX8_next_29 : decode cX8_next 29 = .ok (.iload_n 3, 1) := by decide +kernel
theorem dX8_next_30 : decode cX8_next 30 = .ok (.invokevirtual 139, 3) := by decide +kernel
theorem dX8_next_33 : decode cX8_next 33 = .ok (.ifCond .eq 7, 3) := by decide +kernel
theorem dX8_next_36 : decode cX8_next 36 = .ok (.iconst 0, 1) := by decide +kernel
theorem dX8_next_37 : decode cX8_next 37 = .ok (.goto 5, 3) := by decide +kernel
theorem dX8_next_40 : decode cX8_next 40 = .ok (.ldc 138, 2) := by decide +kernel
theorem dX8_next_42 : decode cX8_next 42 = .ok (.istore 4, 2) := by decide +kernel
theorem dX8_next_44 : decode cX8_next 44 = .ok (.iconst 0, 1) := by decide +kernel
theorem dX8_next_45 : decode cX8_next 45 = .ok (.istore 5, 2) := by decide +kernel
theorem dX8_next_47 : decode cX8_next 47 = .ok (.iload 5, 2) := by decide +kernel
theorem dX8_next_49 : decode cX8_next 49 = .ok (.sipush 181, 3) := by decide +kernel
theorem dX8_next_52 : decode cX8_next 52 = .ok (.if_icmp .ge 17, 3) := by decide +kernel
theorem dX8_next_55 : decode cX8_next 55 = .ok (.aload_n 0, 1) := by decide +kernel
theorem dX8_next_56 : decode cX8_next 56 = .ok (.getfield 38, 3) := by decide +kernel
theorem dX8_next_59 : decode cX8_next 59 = .ok (.iload 5, 2) := by decide +kernel
theorem dX8_next_61 : decode cX8_next 61 = .ok (.iconst 0, 1) := by decide +kernel
theorem dX8_next_62 : decode cX8_next 62 = .ok (.iastore, 1) := by decide +kernel
theorem dX8_next_63 : decode cX8_next 63 = .ok (.iinc 5 1, 3) := by decide +kernel
theorem dX8_next_66 : decode cX8_next 66 = .ok (.goto (-19), 3) := by decide +kernel
theorem dX8_next_69 : decode cX8_next 69 = .ok (.iconst 0, 1) := by decide +kernel
theorem dX8_next_70 : decode cX8_next 70 = .ok (.istore 5, 2) := by decide +kernel
theorem dX8_next_72 : decode cX8_next 72 = .ok (.iload 5, 2) := by decide +kernel
theorem dX8_next_74 : decode cX8_next 74 = .ok (.aload_n 0, 1) := by decide +kernel
theorem dX8_next_75 : decode cX8_next 75 = .ok (.getfield 175, 3) := by decide +kernel
theorem dX8_next_78 : decode cX8_next 78 = .ok (.if_icmp .ge 80, 3) := by decide +kernel
theorem dX8_next_81 : decode cX8_next 81 = .ok (.iload 4, 2) := by decide +kernel
theorem dX8_next_83 : decode cX8_next 83 = .ok (.ldc 138, 2) := by decide +kernel
theorem dX8_next_85 : decode cX8_next 85 = .ok (.if_icmp .ge 73, 3) := by decide +kernel
theorem dX8_next_88 : decode cX8_next 88 = .ok (.aload_n 0, 1) := by decide +kernel
theorem dX8_next_89 : decode cX8_next 89 = .ok (.iload_n 3, 1) := by decide +kernel
theorem dX8_next_90 : decode cX8_next 90 = .ok (.aload_n 0, 1) := by decide +kernel
theorem dX8_next_91 : decode cX8_next 91 = .ok (.getfield 35, 3) := by decide +kernel
theorem dX8_next_94 : decode cX8_next 94 = .ok (.iload 5, 2) := by decide +kernel
theorem dX8_next_96 : decode cX8_next 96 = .ok (.iaload, 1) := by decide +kernel
theorem dX8_next_97 : decode cX8_next 97 = .ok (.bipush 10, 2) := by decide +kernel
theorem dX8_next_99 : decode cX8_next 99 = .ok (.idiv, 1) := by decide +kernel
theorem dX8_next_100 : decode cX8_next 100 = .ok (.aload_n 0, 1) := by decide +kernel
theorem dX8_next_101 : decode cX8_next 101 = .ok (.getfield 35, 3) := by decide +kernel
theorem dX8_next_104 : decode cX8_next 104 = .ok (.iload 5, 2) := by decide +kernel
theorem dX8_next_106 : decode cX8_next 106 = .ok (.iaload, 1) := by decide +kernel
theorem dX8_next_107 : decode cX8_next 107 = .ok (.bipush 10, 2) := by decide +kernel
theorem dX8_next_109 : decode cX8_next 109 = .ok (.irem, 1) := by decide +kernel
theorem dX8_next_110 : decode cX8_next 110 = .ok (.invokevirtual 171, 3) := by decide +kernel
theorem dX8_next_113 : decode cX8_next 113 = .ok (.istore 6, 2) := by decide +kernel
theorem dX8_next_115 : decode cX8_next 115 = .ok (.aload_n 0, 1) := by decide +kernel
theorem dX8_next_116 : decode cX8_next 116 = .ok (.getfield 38, 3) := by decide +kernel
theorem dX8_next_119 : decode cX8_next 119 = .ok (.iload 6, 2) := by decide +kernel
theorem dX8_next_121 : decode cX8_next 121 = .ok (.dup2, 1) := by decide +kernel
theorem dX8_next_122 : decode cX8_next 122 = .ok (.iaload, 1) := by decide +kernel
theorem dX8_next_123 : decode cX8_next 123 = .ok (.iconst 1, 1) := by decide +kernel
theorem dX8_next_124 : decode cX8_next 124 = .ok (.iadd, 1) := by decide +kernel
theorem dX8_next_125 : decode cX8_next 125 = .ok (.iastore, 1) := by decide +kernel
theorem dX8_next_126 : decode cX8_next 126 = .ok (.aload_n 0, 1) := by decide +kernel
theorem dX8_next_127 : decode cX8_next 127 = .ok (.getfield 38, 3) := by decide +kernel
theorem dX8_next_130 : decode cX8_next 130 = .ok (.iload 6, 2) := by decide +kernel
theorem dX8_next_132 : decode cX8_next 132 = .ok (.iaload, 1) := by decide +kernel
theorem dX8_next_133 : decode cX8_next 133 = .ok (.iload 4, 2) := by decide +kernel
theorem dX8_next_135 : decode cX8_next 135 = .ok (.if_icmp .le 13, 3) := by decide +kernel
theorem dX8_next_138 : decode cX8_next 138 = .ok (.aload_n 0, 1) := by decide +kernel
theorem dX8_next_139 : decode cX8_next 139 = .ok (.getfield 38, 3) := by decide +kernel
theorem dX8_next_142 : decode cX8_next 142 = .ok (.iload 6, 2) := by decide +kernel
theorem dX8_next_144 : decode cX8_next 144 = .ok (.iaload, 1) := by decide +kernel
theorem dX8_next_145 : decode cX8_next 145 = .ok (.goto 5, 3) := by decide +kernel
theorem dX8_next_148 : decode cX8_next 148 = .ok (.iload 4, 2) := by decide +kernel
theorem dX8_next_150 : decode cX8_next 150 = .ok (.istore 4, 2) := by decide +kernel
theorem dX8_next_152 : decode cX8_next 152 = .ok (.iinc 5 1, 3) := by decide +kernel
theorem dX8_next_155 : decode cX8_next 155 = .ok (.goto (-83), 3) := by decide +kernel
theorem dX8_next_158 : decode cX8_next 158 = .ok (.iload 4, 2) := by decide +kernel
theorem dX8_next_160 : decode cX8_next 160 = .ok (.iload_n 2, 1) := by decide +kernel
theorem dX8_next_161 : decode cX8_next 161 = .ok (.if_icmp .ge 7, 3) := by decide +kernel
theorem dX8_next_164 : decode cX8_next 164 = .ok (.iload_n 3, 1) := by decide +kernel
theorem dX8_next_165 : decode cX8_next 165 = .ok (.goto 4, 3) := by decide +kernel
theorem dX8_next_168 : decode cX8_next 168 = .ok (.iload_n 1, 1) := by decide +kernel
theorem dX8_next_169 : decode cX8_next 169 = .ok (.istore_n 1, 1) := by decide +kernel
theorem dX8_next_170 : decode cX8_next 170 = .ok (.iload 4, 2) := by decide +kernel
theorem dX8_next_172 : decode cX8_next 172 = .ok (.iload_n 2, 1) := by decide +kernel
theorem dX8_next_173 : decode cX8_next 173 = .ok (.if_icmp .ge 8, 3) := by decide +kernel
theorem dX8_next_176 : decode cX8_next 176 = .ok (.iload 4, 2) := by decide +kernel
theorem dX8_next_178 : decode cX8_next 178 = .ok (.goto 4, 3) := by decide +kernel
theorem dX8_next_181 : decode cX8_next 181 = .ok (.iload_n 2, 1) := by decide +kernel
theorem dX8_next_182 : decode cX8_next 182 = .ok (.istore_n 2, 1) := by decide +kernel
theorem dX8_next_183 : decode cX8_next 183 = .ok (.iinc 3 1, 3) := by decide +kernel
theorem dX8_next_186 : decode cX8_next 186 = .ok (.goto (-174), 3) := by decide +kernel
theorem dX8_next_189 : decode cX8_next 189 = .ok (.iload_n 1, 1) := by decide +kernel
theorem dX8_next_190 : decode cX8_next 190 = .ok (.ireturn, 1) := by decide +kernel
theorem dX8_linkRate_0 : decode cX8_linkRate 0 = .ok (.aload_n 0, 1) := by decide +kernel
theorem dX8_linkRate_1 : decode cX8_linkRate 1 = .ok (.dup, 1) := by decide +kernel
theorem dX8_linkRate_2 : decode cX8_linkRate 2 = .ok (.getfield 184, 3) := by decide +kernel
theorem dX8_linkRate_5 : decode cX8_linkRate 5 = .ok (.lconst 1, 1) := by decide +kernel
theorem dX8_linkRate_6 : decode cX8_linkRate 6 = .ok (.ladd, 1) := by decide +kernel
theorem dX8_linkRate_7 : decode cX8_linkRate 7 = .ok (.putfield 184, 3) := by decide +kernel
theorem dX8_linkRate_10 : decode cX8_linkRate 10 = .ok (.aload_n 0, 1) := by decide +kernel
theorem dX8_linkRate_11 : decode cX8_linkRate 11 = .ok (.getfield 7, 3) := by decide +kernel
theorem dX8_linkRate_14 : decode cX8_linkRate 14 = .ok (.iconst 0, 1) := by decide +kernel
theorem dX8_linkRate_15 : decode cX8_linkRate 15 = .ok (.iload_n 1, 1) := by decide +kernel
theorem dX8_linkRate_16 : decode cX8_linkRate 16 = .ok (.iadd, 1) := by decide +kernel
theorem dX8_linkRate_17 : decode cX8_linkRate 17 = .ok (.iaload, 1) := by decide +kernel
theorem dX8_linkRate_18 : decode cX8_linkRate 18 = .ok (.ireturn, 1) := by decide +kernel
set_option maxRecDepth 20000 in
theorem ggX8_woodRate_X8_linkRate : GoodIn wsX8_woodRate wsX8_linkRate := goodIn_r _ [7, 1, 8, 26, 27, 28, 29, 30, 31, 32, 33, 34, 35, 36, 37, 38, 39, 40, 41, 42, 43, 44, 45, 46, 47] (by decide +kernel) (by decide +kernel)
set_option maxRecDepth 20000 in
theorem gX8_woodRate_X8_linkRate : GoodIn wsX8_woodRate (wsV RX8 190 RX8 yX8_linkRate wsX8_linkRate) := goodIn_app (goodIn_of _ (by decide +kernel)) ggX8_woodRate_X8_linkRate
set_option maxRecDepth 20000 in
theorem ggX8_woodRate_X8_mark : GoodIn wsX8_woodRate wsX8_mark := goodIn_r _ [12, 13, 14, 8, 15, 16, 17, 6, 18, 19, 20, 21, 22, 23, 24, 25, 26, 27, 28, 29, 30, 31, 32, 33, 34, 35, 36, 37, 38, 39, 40, 41, 42, 43, 44, 45, 46, 47] (by decide +kernel) (by decide +kernel)
set_option maxRecDepth 20000 in
theorem gX8_woodRate_X8_mark : GoodIn wsX8_woodRate (wsV RX8 193 RX8 yX8_mark wsX8_mark) := goodIn_app (goodIn_of _ (by decide +kernel)) ggX8_woodRate_X8_mark
theorem dX8_woodRate_0 : decode cX8_woodRate 0 = .ok (.aload_n 0, 1) := by decide +kernel
theorem dX8_woodRate_1 : decode cX8_woodRate 1 = .ok (.dup, 1) := by decide +kernel
theorem dX8_woodRate_2 : decode cX8_woodRate 2 = .ok (.getfield 184, 3) := by decide +kernel
theorem dX8_woodRate_5 : decode cX8_woodRate 5 = .ok (.ldc2_w 188, 3) := by decide +kernel
theorem dX8_woodRate_8 : decode cX8_woodRate 8 = .ok (.ladd, 1) := by decide +kernel
theorem dX8_woodRate_9 : decode cX8_woodRate 9 = .ok (.putfield 184, 3) := by decide +kernel
theorem dX8_woodRate_12 : decode cX8_woodRate 12 = .ok (.aload_n 0, 1) := by decide +kernel
theorem dX8_woodRate_13 : decode cX8_woodRate 13 = .ok (.iload_n 1, 1) := by decide +kernel
theorem dX8_woodRate_14 : decode cX8_woodRate 14 = .ok (.invokevirtual 190, 3) := by decide +kernel
theorem dX8_woodRate_17 : decode cX8_woodRate 17 = .ok (.aload_n 0, 1) := by decide +kernel
theorem dX8_woodRate_18 : decode cX8_woodRate 18 = .ok (.iload_n 1, 1) := by decide +kernel
theorem dX8_woodRate_19 : decode cX8_woodRate 19 = .ok (.invokevirtual 193, 3) := by decide +kernel
theorem dX8_woodRate_22 : decode cX8_woodRate 22 = .ok (.iadd, 1) := by decide +kernel
theorem dX8_woodRate_23 : decode cX8_woodRate 23 = .ok (.ireturn, 1) := by decide +kernel
set_option maxRecDepth 20000 in
theorem ggX8_brassRate_X8_linkRate : GoodIn wsX8_brassRate wsX8_linkRate := goodIn_r _ [8, 1, 3, 30, 31, 32, 33, 34, 35, 36, 37, 38, 39, 40, 41, 42, 43, 44, 45, 46, 47, 48, 49, 50, 51] (by decide +kernel) (by decide +kernel)
set_option maxRecDepth 20000 in
theorem gX8_brassRate_X8_linkRate : GoodIn wsX8_brassRate (wsV RX8 190 RX8 yX8_linkRate wsX8_linkRate) := goodIn_app (goodIn_of _ (by decide +kernel)) ggX8_brassRate_X8_linkRate
set_option maxRecDepth 20000 in
theorem ggX8_brassRate_X8_spanBy : GoodIn wsX8_brassRate wsX8_spanBy := goodIn_r _ [12, 13, 14, 15, 7, 16, 17, 18, 3, 19, 20, 21, 22, 23, 24, 25, 26, 27, 28, 29, 30, 31, 32, 33, 34, 35, 36, 37, 38, 39, 40, 41, 42, 43, 44, 45, 46, 47, 48, 49, 50, 51] (by decide +kernel) (by decide +kernel)
set_option maxRecDepth 20000 in
theorem gX8_brassRate_X8_spanBy : GoodIn wsX8_brassRate (wsV RX8 118 RX8 yX8_spanBy wsX8_spanBy) := goodIn_app (goodIn_of _ (by decide +kernel)) ggX8_brassRate_X8_spanBy
theorem dX8_brassRate_0 : decode cX8_brassRate 0 = .ok (.aload_n 0, 1) := by decide +kernel
theorem dX8_brassRate_1 : decode cX8_brassRate 1 = .ok (.dup, 1) := by decide +kernel
theorem dX8_brassRate_2 : decode cX8_brassRate 2 = .ok (.getfield 184, 3) := by decide +kernel
theorem dX8_brassRate_5 : decode cX8_brassRate 5 = .ok (.ldc2_w 196, 3) := by decide +kernel
theorem dX8_brassRate_8 : decode cX8_brassRate 8 = .ok (.ladd, 1) := by decide +kernel
theorem dX8_brassRate_9 : decode cX8_brassRate 9 = .ok (.putfield 184, 3) := by decide +kernel
theorem dX8_brassRate_12 : decode cX8_brassRate 12 = .ok (.aload_n 0, 1) := by decide +kernel
theorem dX8_brassRate_13 : decode cX8_brassRate 13 = .ok (.iload_n 1, 1) := by decide +kernel
theorem dX8_brassRate_14 : decode cX8_brassRate 14 = .ok (.invokevirtual 190, 3) := by decide +kernel
theorem dX8_brassRate_17 : decode cX8_brassRate 17 = .ok (.aload_n 0, 1) := by decide +kernel
theorem dX8_brassRate_18 : decode cX8_brassRate 18 = .ok (.aload_n 0, 1) := by decide +kernel
theorem dX8_brassRate_19 : decode cX8_brassRate 19 = .ok (.getfield 7, 3) := by decide +kernel
theorem dX8_brassRate_22 : decode cX8_brassRate 22 = .ok (.bipush 9, 2) := by decide +kernel
theorem dX8_brassRate_24 : decode cX8_brassRate 24 = .ok (.iaload, 1) := by decide +kernel
theorem dX8_brassRate_25 : decode cX8_brassRate 25 = .ok (.invokevirtual 118, 3) := by decide +kernel
theorem dX8_brassRate_28 : decode cX8_brassRate 28 = .ok (.isub, 1) := by decide +kernel
theorem dX8_brassRate_29 : decode cX8_brassRate 29 = .ok (.ireturn, 1) := by decide +kernel
set_option maxRecDepth 20000 in
theorem ggX8_rate_X8_in : GoodIn wsX8_rate wsX8_in := goodIn_r _ [9] (by decide +kernel) (by decide +kernel)
set_option maxRecDepth 20000 in
theorem gX8_rate_X8_in : GoodIn wsX8_rate (va_wsS RX8 45 yX8_in wsX8_in) := goodIn_app (goodIn_of _ (by decide +kernel)) ggX8_rate_X8_in
set_option maxRecDepth 20000 in
theorem ggX8_rate_X8_isLink : GoodIn wsX8_rate wsX8_isLink := goodIn_r _ [13, 14, 6, 7, 8, 9, 62, 63, 64, 65, 66, 67, 68, 69, 70, 71, 72, 73, 74, 75, 76, 77, 78, 79, 80, 81, 82, 83] (by decide +kernel) (by decide +kernel)
set_option maxRecDepth 20000 in
theorem gX8_rate_X8_isLink : GoodIn wsX8_rate (wsV RX8 125 RX8 yX8_isLink wsX8_isLink) := goodIn_app (goodIn_of _ (by decide +kernel)) ggX8_rate_X8_isLink
set_option maxRecDepth 20000 in
theorem ggX8_rate_X8_woodRate : GoodIn wsX8_rate wsX8_woodRate := goodIn_r _ [18, 2, 19, 20, 21, 22, 8, 23, 24, 25, 26, 27, 28, 14, 1, 29, 6, 7, 9, 30, 31, 32, 33, 34, 35, 36, 62, 63, 64, 65, 66, 67, 68, 69, 70, 71, 72, 73, 74, 75, 76, 77, 78, 79, 80, 81, 82, 83] (by decide +kernel) (by decide +kernel)
set_option maxRecDepth 20000 in
theorem gX8_rate_X8_woodRate : GoodIn wsX8_rate (wsV RX8 198 RX8 yX8_woodRate wsX8_woodRate) := goodIn_app (goodIn_of _ (by decide +kernel)) ggX8_rate_X8_woodRate
set_option maxRecDepth 20000 in
theorem ggX8_rate_X8_brassRate : GoodIn wsX8_rate wsX8_brassRate := goodIn_r _ [40, 2, 41, 24, 20, 21, 22, 8, 23, 42, 43, 44, 45, 30, 31, 32, 33, 29, 14, 34, 35, 36, 46, 47, 48, 49, 50, 51, 52, 53, 62, 63, 64, 65, 66, 67, 68, 69, 70, 71, 72, 73, 74, 75, 76, 77, 78, 79, 80, 81, 82, 83] (by decide +kernel) (by decide +kernel)
set_option maxRecDepth 20000 in
theorem gX8_rate_X8_brassRate : GoodIn wsX8_rate (wsV RX8 201 RX8 yX8_brassRate wsX8_brassRate) := goodIn_app (goodIn_of _ (by decide +kernel)) ggX8_rate_X8_brassRate
set_option maxRecDepth 20000 in
theorem ggX8_rate_X8_linkRate : GoodIn wsX8_rate wsX8_linkRate := goodIn_r _ [23, 2, 24, 62, 63, 64, 65, 66, 67, 68, 69, 70, 71, 72, 73, 74, 75, 76, 77, 78, 79, 80, 81, 82, 83] (by decide +kernel) (by decide +kernel)
set_option maxRecDepth 20000 in
theorem gX8_rate_X8_linkRate : GoodIn wsX8_rate (wsV RX8 190 RX8 yX8_linkRate wsX8_linkRate) := goodIn_app (goodIn_of _ (by decide +kernel)) ggX8_rate_X8_linkRate
set_option maxRecDepth 20000 in
theorem ggX8_rate_X8_stack : GoodIn wsX8_rate wsX8_stack := goodIn_r _ [57, 24, 14, 42, 43, 44, 8, 45, 30, 31, 32, 33, 29, 34, 35, 36, 46, 47, 48, 49, 50, 51, 52, 53, 58, 59, 60, 61, 62, 63, 64, 65, 66, 67, 68, 69, 70, 71, 72, 73, 74, 75, 76, 77, 78, 79, 80, 81, 82, 83] (by decide +kernel) (by decide +kernel)
set_option maxRecDepth 20000 in
theorem gX8_rate_X8_stack : GoodIn wsX8_rate (wsV RX8 146 RX8 yX8_stack wsX8_stack) := goodIn_app (goodIn_of _ (by decide +kernel)) ggX8_rate_X8_stack
theorem dX8_rate_0 : decode cX8_rate 0 = .ok (.iload_n 1, 1) := by decide +kernel
theorem dX8_rate_1 : decode cX8_rate 1 = .ok (.iconst 0, 1) := by decide +kernel
theorem dX8_rate_2 : decode cX8_rate 2 = .ok (.iconst 5, 1) := by decide +kernel
theorem dX8_rate_3 : decode cX8_rate 3 = .ok (.invokestatic 45, 3) := by decide +kernel
theorem dX8_rate_6 : decode cX8_rate 6 = .ok (.ifCond .eq 11, 3) := by decide +kernel
theorem dX8_rate_9 : decode cX8_rate 9 = .ok (.aload_n 0, 1) := by decide +kernel
theorem dX8_rate_10 : decode cX8_rate 10 = .ok (.iload_n 2, 1) := by decide +kernel
theorem dX8_rate_11 : decode cX8_rate 11 = .ok (.invokevirtual 125, 3) := by decide +kernel
theorem dX8_rate_14 : decode cX8_rate 14 = .ok (.ifCond .ne 6, 3) := by decide +kernel
theorem dX8_rate_17 : decode cX8_rate 17 = .ok (.ldc 134, 2) := by decide +kernel
theorem dX8_rate_19 : decode cX8_rate 19 = .ok (.ireturn, 1) := by decide +kernel
theorem dX8_rate_20 : decode cX8_rate 20 = .ok (.iload_n 1, 1) := by decide +kernel
theorem dX8_rate_21 : decode cX8_rate 21 = .ok (.tableswitch 110 1 5 #[35, 41, 47, 67, 87], 35) := by decide +kernel
theorem dX8_rate_56 : decode cX8_rate 56 = .ok (.aload_n 0, 1) := by decide +kernel
theorem dX8_rate_57 : decode cX8_rate 57 = .ok (.iload_n 2, 1) := by decide +kernel
theorem dX8_rate_58 : decode cX8_rate 58 = .ok (.invokevirtual 198, 3) := by decide +kernel
theorem dX8_rate_61 : decode cX8_rate 61 = .ok (.ireturn, 1) := by decide +kernel
theorem dX8_rate_62 : decode cX8_rate 62 = .ok (.aload_n 0, 1) := by decide +kernel
theorem dX8_rate_63 : decode cX8_rate 63 = .ok (.iload_n 2, 1) := by decide +kernel
theorem dX8_rate_64 : decode cX8_rate 64 = .ok (.invokevirtual 201, 3) := by decide +kernel
theorem dX8_rate_67 : decode cX8_rate 67 = .ok (.ireturn, 1) := by decide +kernel
theorem dX8_rate_68 : decode cX8_rate 68 = .ok (.aload_n 0, 1) := by decide +kernel
theorem dX8_rate_69 : decode cX8_rate 69 = .ok (.dup, 1) := by decide +kernel
theorem dX8_rate_70 : decode cX8_rate 70 = .ok (.getfield 184, 3) := by decide +kernel
theorem dX8_rate_73 : decode cX8_rate 73 = .ok (.ldc2_w 204, 3) := by decide +kernel
theorem dX8_rate_76 : decode cX8_rate 76 = .ok (.ladd, 1) := by decide +kernel
theorem dX8_rate_77 : decode cX8_rate 77 = .ok (.putfield 184, 3) := by decide +kernel
theorem dX8_rate_80 : decode cX8_rate 80 = .ok (.iconst 2, 1) := by decide +kernel
theorem dX8_rate_81 : decode cX8_rate 81 = .ok (.aload_n 0, 1) := by decide +kernel
theorem dX8_rate_82 : decode cX8_rate 82 = .ok (.iload_n 2, 1) := by decide +kernel
theorem dX8_rate_83 : decode cX8_rate 83 = .ok (.invokevirtual 198, 3) := by decide +kernel
theorem dX8_rate_86 : decode cX8_rate 86 = .ok (.imul, 1) := by decide +kernel
theorem dX8_rate_87 : decode cX8_rate 87 = .ok (.ireturn, 1) := by decide +kernel
theorem dX8_rate_88 : decode cX8_rate 88 = .ok (.aload_n 0, 1) := by decide +kernel
theorem dX8_rate_89 : decode cX8_rate 89 = .ok (.dup, 1) := by decide +kernel
theorem dX8_rate_90 : decode cX8_rate 90 = .ok (.getfield 184, 3) := by decide +kernel
theorem dX8_rate_93 : decode cX8_rate 93 = .ok (.ldc2_w 206, 3) := by decide +kernel
theorem dX8_rate_96 : decode cX8_rate 96 = .ok (.ladd, 1) := by decide +kernel
theorem dX8_rate_97 : decode cX8_rate 97 = .ok (.putfield 184, 3) := by decide +kernel
theorem dX8_rate_100 : decode cX8_rate 100 = .ok (.aload_n 0, 1) := by decide +kernel
theorem dX8_rate_101 : decode cX8_rate 101 = .ok (.iload_n 2, 1) := by decide +kernel
theorem dX8_rate_102 : decode cX8_rate 102 = .ok (.invokevirtual 201, 3) := by decide +kernel
theorem dX8_rate_105 : decode cX8_rate 105 = .ok (.iload_n 2, 1) := by decide +kernel
theorem dX8_rate_106 : decode cX8_rate 106 = .ok (.iadd, 1) := by decide +kernel
theorem dX8_rate_107 : decode cX8_rate 107 = .ok (.ireturn, 1) := by decide +kernel
theorem dX8_rate_108 : decode cX8_rate 108 = .ok (.aload_n 0, 1) := by decide +kernel
theorem dX8_rate_109 : decode cX8_rate 109 = .ok (.dup, 1) := by decide +kernel
theorem dX8_rate_110 : decode cX8_rate 110 = .ok (.getfield 184, 3) := by decide +kernel
theorem dX8_rate_113 : decode cX8_rate 113 = .ok (.ldc2_w 208, 3) := by decide +kernel
theorem dX8_rate_116 : decode cX8_rate 116 = .ok (.ladd, 1) := by decide +kernel
theorem dX8_rate_117 : decode cX8_rate 117 = .ok (.putfield 184, 3) := by decide +kernel
theorem dX8_rate_120 : decode cX8_rate 120 = .ok (.aload_n 0, 1) := by decide +kernel
theorem dX8_rate_121 : decode cX8_rate 121 = .ok (.iload_n 2, 1) := by decide +kernel
theorem dX8_rate_122 : decode cX8_rate 122 = .ok (.invokevirtual 190, 3) := by decide +kernel
theorem dX8_rate_125 : decode cX8_rate 125 = .ok (.aload_n 0, 1) := by decide +kernel
theorem dX8_rate_126 : decode cX8_rate 126 = .ok (.invokevirtual 146, 3) := by decide +kernel
theorem dX8_rate_129 : decode cX8_rate 129 = .ok (.iadd, 1) := by decide +kernel
theorem dX8_rate_130 : decode cX8_rate 130 = .ok (.ireturn, 1) := by decide +kernel
theorem dX8_rate_131 : decode cX8_rate 131 = .ok (.aload_n 0, 1) := by decide +kernel
theorem dX8_rate_132 : decode cX8_rate 132 = .ok (.iload_n 2, 1) := by decide +kernel
theorem dX8_rate_133 : decode cX8_rate 133 = .ok (.invokevirtual 190, 3) := by decide +kernel
theorem dX8_rate_136 : decode cX8_rate 136 = .ok (.ireturn, 1) := by decide +kernel
set_option maxRecDepth 20000 in
theorem ggX8_keep_X8_in : GoodIn wsX8_keep wsX8_in := goodIn_r _ [6] (by decide +kernel) (by decide +kernel)
set_option maxRecDepth 20000 in
theorem gX8_keep_X8_in : GoodIn wsX8_keep (va_wsS RX8 45 yX8_in wsX8_in) := goodIn_app (goodIn_of _ (by decide +kernel)) ggX8_keep_X8_in
set_option maxRecDepth 20000 in
theorem ggX8_keep_X8_copyRow : GoodIn wsX8_keep wsX8_copyRow := goodIn_r _ [10, 2, 32, 33, 34, 35, 36, 37, 38, 39, 40, 41, 42, 43, 44, 45, 46, 47, 48, 49, 50, 51, 52, 53] (by decide +kernel) (by decide +kernel)
set_option maxRecDepth 20000 in
theorem gX8_keep_X8_copyRow : GoodIn wsX8_keep (wsV RX8 158 RX8 yX8_copyRow wsX8_copyRow) := goodIn_app (goodIn_of _ (by decide +kernel)) ggX8_keep_X8_copyRow
set_option maxRecDepth 20000 in
theorem ggX8_keep_X8_spanBy : GoodIn wsX8_keep wsX8_spanBy := goodIn_r _ [14, 15, 16, 17, 5, 18, 19, 20, 2, 21, 22, 23, 24, 25, 26, 27, 28, 29, 30, 31, 32, 33, 34, 35, 36, 37, 38, 39, 40, 41, 42, 43, 44, 45, 46, 47, 48, 49, 50, 51, 52, 53] (by decide +kernel) (by decide +kernel)
set_option maxRecDepth 20000 in
theorem gX8_keep_X8_spanBy : GoodIn wsX8_keep (wsV RX8 118 RX8 yX8_spanBy wsX8_spanBy) := goodIn_app (goodIn_of _ (by decide +kernel)) ggX8_keep_X8_spanBy
theorem dX8_keep_0 : decode cX8_keep 0 = .ok (.iload_n 1, 1) := by decide +kernel
theorem dX8_keep_1 : decode cX8_keep 1 = .ok (.iconst 0, 1) := by decide +kernel
theorem dX8_keep_2 : decode cX8_keep 2 = .ok (.iconst 1, 1) := by decide +kernel
theorem dX8_keep_3 : decode cX8_keep 3 = .ok (.invokestatic 45, 3) := by decide +kernel
theorem dX8_keep_6 : decode cX8_keep 6 = .ok (.ifCond .ne 5, 3) := by decide +kernel
theorem dX8_keep_9 : decode cX8_keep 9 = .ok (.iconst (-1), 1) := by decide +kernel
theorem dX8_keep_10 : decode cX8_keep 10 = .ok (.ireturn, 1) := by decide +kernel
theorem dX8_keep_11 : decode cX8_keep 11 = .ok (.aload_n 0, 1) := by decide +kernel
theorem dX8_keep_12 : decode cX8_keep 12 = .ok (.iconst 0, 1) := by decide +kernel
theorem dX8_keep_13 : decode cX8_keep 13 = .ok (.bipush 121, 2) := by decide +kernel
theorem dX8_keep_15 : decode cX8_keep 15 = .ok (.bipush 11, 2) := by decide +kernel
theorem dX8_keep_17 : decode cX8_keep 17 = .ok (.iload_n 1, 1) := by decide +kernel
theorem dX8_keep_18 : decode cX8_keep 18 = .ok (.imul, 1) := by decide +kernel
theorem dX8_keep_19 : decode cX8_keep 19 = .ok (.iadd, 1) := by decide +kernel
theorem dX8_keep_20 : decode cX8_keep 20 = .ok (.invokevirtual 158, 3) := by decide +kernel
theorem dX8_keep_23 : decode cX8_keep 23 = .ok (.aload_n 0, 1) := by decide +kernel
theorem dX8_keep_24 : decode cX8_keep 24 = .ok (.getfield 13, 3) := by decide +kernel
theorem dX8_keep_27 : decode cX8_keep 27 = .ok (.iload_n 1, 1) := by decide +kernel
theorem dX8_keep_28 : decode cX8_keep 28 = .ok (.iconst 1, 1) := by decide +kernel
theorem dX8_keep_29 : decode cX8_keep 29 = .ok (.bastore, 1) := by decide +kernel
theorem dX8_keep_30 : decode cX8_keep 30 = .ok (.aload_n 0, 1) := by decide +kernel
theorem dX8_keep_31 : decode cX8_keep 31 = .ok (.aload_n 0, 1) := by decide +kernel
theorem dX8_keep_32 : decode cX8_keep 32 = .ok (.getfield 7, 3) := by decide +kernel
theorem dX8_keep_35 : decode cX8_keep 35 = .ok (.bipush 9, 2) := by decide +kernel
theorem dX8_keep_37 : decode cX8_keep 37 = .ok (.iaload, 1) := by decide +kernel
theorem dX8_keep_38 : decode cX8_keep 38 = .ok (.invokevirtual 118, 3) := by decide +kernel
theorem dX8_keep_41 : decode cX8_keep 41 = .ok (.ireturn, 1) := by decide +kernel
set_option maxRecDepth 20000 in
theorem ggX8_back_X8_in : GoodIn wsX8_back wsX8_in := goodIn_r _ [7] (by decide +kernel) (by decide +kernel)
set_option maxRecDepth 20000 in
theorem gX8_back_X8_in : GoodIn wsX8_back (va_wsS RX8 45 yX8_in wsX8_in) := goodIn_app (goodIn_of _ (by decide +kernel)) ggX8_back_X8_in
set_option maxRecDepth 20000 in
theorem ggX8_back_X8_copyRow : GoodIn wsX8_back wsX8_copyRow := goodIn_r _ [11, 3, 33, 34, 35, 36, 37, 38, 39, 40, 41, 42, 43, 44, 45, 46, 47, 48, 49, 50, 51, 52, 53, 54] (by decide +kernel) (by decide +kernel)
set_option maxRecDepth 20000 in
theorem gX8_back_X8_copyRow : GoodIn wsX8_back (wsV RX8 158 RX8 yX8_copyRow wsX8_copyRow) := goodIn_app (goodIn_of _ (by decide +kernel)) ggX8_back_X8_copyRow
set_option maxRecDepth 20000 in
theorem ggX8_back_X8_spanBy : GoodIn wsX8_back wsX8_spanBy := goodIn_r _ [15, 16, 17, 18, 6, 19, 20, 21, 3, 22, 23, 24, 25, 26, 27, 28, 29, 30, 31, 32, 33, 34, 35, 36, 37, 38, 39, 40, 41, 42, 43, 44, 45, 46, 47, 48, 49, 50, 51, 52, 53, 54] (by decide +kernel) (by decide +kernel)
set_option maxRecDepth 20000 in
theorem gX8_back_X8_spanBy : GoodIn wsX8_back (wsV RX8 118 RX8 yX8_spanBy wsX8_spanBy) := goodIn_app (goodIn_of _ (by decide +kernel)) ggX8_back_X8_spanBy
theorem dX8_back_0 : decode cX8_back 0 = .ok (.iload_n 1, 1) := by decide +kernel
theorem dX8_back_1 : decode cX8_back 1 = .ok (.iconst 0, 1) := by decide +kernel
theorem dX8_back_2 : decode cX8_back 2 = .ok (.iconst 1, 1) := by decide +kernel
theorem dX8_back_3 : decode cX8_back 3 = .ok (.invokestatic 45, 3) := by decide +kernel
theorem dX8_back_6 : decode cX8_back 6 = .ok (.ifCond .ne 5, 3) := by decide +kernel
theorem dX8_back_9 : decode cX8_back 9 = .ok (.iconst (-1), 1) := by decide +kernel
theorem dX8_back_10 : decode cX8_back 10 = .ok (.ireturn, 1) := by decide +kernel
theorem dX8_back_11 : decode cX8_back 11 = .ok (.aload_n 0, 1) := by decide +kernel
theorem dX8_back_12 : decode cX8_back 12 = .ok (.getfield 13, 3) := by decide +kernel
theorem dX8_back_15 : decode cX8_back 15 = .ok (.iload_n 1, 1) := by decide +kernel
theorem dX8_back_16 : decode cX8_back 16 = .ok (.baload, 1) := by decide +kernel
theorem dX8_back_17 : decode cX8_back 17 = .ok (.ifCond .ne 6, 3) := by decide +kernel
theorem dX8_back_20 : decode cX8_back 20 = .ok (.bipush (-2), 2) := by decide +kernel
theorem dX8_back_22 : decode cX8_back 22 = .ok (.ireturn, 1) := by decide +kernel
theorem dX8_back_23 : decode cX8_back 23 = .ok (.aload_n 0, 1) := by decide +kernel
theorem dX8_back_24 : decode cX8_back 24 = .ok (.bipush 121, 2) := by decide +kernel
theorem dX8_back_26 : decode cX8_back 26 = .ok (.bipush 11, 2) := by decide +kernel
theorem dX8_back_28 : decode cX8_back 28 = .ok (.iload_n 1, 1) := by decide +kernel
theorem dX8_back_29 : decode cX8_back 29 = .ok (.imul, 1) := by decide +kernel
theorem dX8_back_30 : decode cX8_back 30 = .ok (.iadd, 1) := by decide +kernel
theorem dX8_back_31 : decode cX8_back 31 = .ok (.iconst 0, 1) := by decide +kernel
theorem dX8_back_32 : decode cX8_back 32 = .ok (.invokevirtual 158, 3) := by decide +kernel
theorem dX8_back_35 : decode cX8_back 35 = .ok (.aload_n 0, 1) := by decide +kernel
theorem dX8_back_36 : decode cX8_back 36 = .ok (.iconst 0, 1) := by decide +kernel
theorem dX8_back_37 : decode cX8_back 37 = .ok (.putfield 102, 3) := by decide +kernel
theorem dX8_back_40 : decode cX8_back 40 = .ok (.aload_n 0, 1) := by decide +kernel
theorem dX8_back_41 : decode cX8_back 41 = .ok (.aload_n 0, 1) := by decide +kernel
theorem dX8_back_42 : decode cX8_back 42 = .ok (.getfield 7, 3) := by decide +kernel
theorem dX8_back_45 : decode cX8_back 45 = .ok (.bipush 9, 2) := by decide +kernel
theorem dX8_back_47 : decode cX8_back 47 = .ok (.iaload, 1) := by decide +kernel
theorem dX8_back_48 : decode cX8_back 48 = .ok (.invokevirtual 118, 3) := by decide +kernel
theorem dX8_back_51 : decode cX8_back 51 = .ok (.ireturn, 1) := by decide +kernel
theorem dX8_count_0 : decode cX8_count 0 = .ok (.iload_n 1, 1) := by decide +kernel
theorem dX8_count_1 : decode cX8_count 1 = .ok (.tableswitch 54 0 3 #[31, 36, 44, 49], 31) := by decide +kernel
theorem dX8_count_32 : decode cX8_count 32 = .ok (.aload_n 0, 1) := by decide +kernel
theorem dX8_count_33 : decode cX8_count 33 = .ok (.getfield 41, 3) := by decide +kernel
theorem dX8_count_36 : decode cX8_count 36 = .ok (.ireturn, 1) := by decide +kernel
theorem dX8_count_37 : decode cX8_count 37 = .ok (.aload_n 0, 1) := by decide +kernel
theorem dX8_count_38 : decode cX8_count 38 = .ok (.getfield 7, 3) := by decide +kernel
theorem dX8_count_41 : decode cX8_count 41 = .ok (.bipush 10, 2) := by decide +kernel
theorem dX8_count_43 : decode cX8_count 43 = .ok (.iaload, 1) := by decide +kernel
theorem dX8_count_44 : decode cX8_count 44 = .ok (.ireturn, 1) := by decide +kernel
theorem dX8_count_45 : decode cX8_count 45 = .ok (.aload_n 0, 1) := by decide +kernel
theorem dX8_count_46 : decode cX8_count 46 = .ok (.getfield 105, 3) := by decide +kernel
theorem dX8_count_49 : decode cX8_count 49 = .ok (.ireturn, 1) := by decide +kernel
theorem dX8_count_50 : decode cX8_count 50 = .ok (.aload_n 0, 1) := by decide +kernel
theorem dX8_count_51 : decode cX8_count 51 = .ok (.getfield 49, 3) := by decide +kernel
theorem dX8_count_54 : decode cX8_count 54 = .ok (.ireturn, 1) := by decide +kernel
theorem dX8_count_55 : decode cX8_count 55 = .ok (.iconst (-1), 1) := by decide +kernel
theorem dX8_count_56 : decode cX8_count 56 = .ok (.ireturn, 1) := by decide +kernel
theorem dX8_trace_0 : decode cX8_trace 0 = .ok (.aload_n 0, 1) := by decide +kernel
theorem dX8_trace_1 : decode cX8_trace 1 = .ok (.getfield 184, 3) := by decide +kernel
theorem dX8_trace_4 : decode cX8_trace 4 = .ok (.lreturn, 1) := by decide +kernel
theorem dJ6_bitCount_0f7a4_0 : decode cJ6_bitCount_0f7a4 0 = .ok (.iload_n 0, 1) := by decide +kernel
theorem dJ6_bitCount_0f7a4_1 : decode cJ6_bitCount_0f7a4 1 = .ok (.iload_n 0, 1) := by decide +kernel
theorem dJ6_bitCount_0f7a4_2 : decode cJ6_bitCount_0f7a4 2 = .ok (.iconst 1, 1) := by decide +kernel
theorem dJ6_bitCount_0f7a4_3 : decode cJ6_bitCount_0f7a4 3 = .ok (.iushr, 1) := by decide +kernel
theorem dJ6_bitCount_0f7a4_4 : decode cJ6_bitCount_0f7a4 4 = .ok (.ldc_w 265, 3) := by decide +kernel
theorem dJ6_bitCount_0f7a4_7 : decode cJ6_bitCount_0f7a4 7 = .ok (.iand, 1) := by decide +kernel
theorem dJ6_bitCount_0f7a4_8 : decode cJ6_bitCount_0f7a4 8 = .ok (.isub, 1) := by decide +kernel
theorem dJ6_bitCount_0f7a4_9 : decode cJ6_bitCount_0f7a4 9 = .ok (.istore_n 0, 1) := by decide +kernel
theorem dJ6_bitCount_0f7a4_10 : decode cJ6_bitCount_0f7a4 10 = .ok (.iload_n 0, 1) := by decide +kernel
theorem dJ6_bitCount_0f7a4_11 : decode cJ6_bitCount_0f7a4 11 = .ok (.ldc_w 266, 3) := by decide +kernel
theorem dJ6_bitCount_0f7a4_14 : decode cJ6_bitCount_0f7a4 14 = .ok (.iand, 1) := by decide +kernel
theorem dJ6_bitCount_0f7a4_15 : decode cJ6_bitCount_0f7a4 15 = .ok (.iload_n 0, 1) := by decide +kernel
theorem dJ6_bitCount_0f7a4_16 : decode cJ6_bitCount_0f7a4 16 = .ok (.iconst 2, 1) := by decide +kernel
theorem dJ6_bitCount_0f7a4_17 : decode cJ6_bitCount_0f7a4 17 = .ok (.iushr, 1) := by decide +kernel
theorem dJ6_bitCount_0f7a4_18 : decode cJ6_bitCount_0f7a4 18 = .ok (.ldc_w 266, 3) := by decide +kernel
theorem dJ6_bitCount_0f7a4_21 : decode cJ6_bitCount_0f7a4 21 = .ok (.iand, 1) := by decide +kernel
theorem dJ6_bitCount_0f7a4_22 : decode cJ6_bitCount_0f7a4 22 = .ok (.iadd, 1) := by decide +kernel
theorem dJ6_bitCount_0f7a4_23 : decode cJ6_bitCount_0f7a4 23 = .ok (.istore_n 0, 1) := by decide +kernel
theorem dJ6_bitCount_0f7a4_24 : decode cJ6_bitCount_0f7a4 24 = .ok (.iload_n 0, 1) := by decide +kernel
theorem dJ6_bitCount_0f7a4_25 : decode cJ6_bitCount_0f7a4 25 = .ok (.iload_n 0, 1) := by decide +kernel
theorem dJ6_bitCount_0f7a4_26 : decode cJ6_bitCount_0f7a4 26 = .ok (.iconst 4, 1) := by decide +kernel
theorem dJ6_bitCount_0f7a4_27 : decode cJ6_bitCount_0f7a4 27 = .ok (.iushr, 1) := by decide +kernel
theorem dJ6_bitCount_0f7a4_28 : decode cJ6_bitCount_0f7a4 28 = .ok (.iadd, 1) := by decide +kernel
theorem dJ6_bitCount_0f7a4_29 : decode cJ6_bitCount_0f7a4 29 = .ok (.ldc_w 267, 3) := by decide +kernel
theorem dJ6_bitCount_0f7a4_32 : decode cJ6_bitCount_0f7a4 32 = .ok (.iand, 1) := by decide +kernel
theorem dJ6_bitCount_0f7a4_33 : decode cJ6_bitCount_0f7a4 33 = .ok (.istore_n 0, 1) := by decide +kernel
theorem dJ6_bitCount_0f7a4_34 : decode cJ6_bitCount_0f7a4 34 = .ok (.iload_n 0, 1) := by decide +kernel
theorem dJ6_bitCount_0f7a4_35 : decode cJ6_bitCount_0f7a4 35 = .ok (.iload_n 0, 1) := by decide +kernel
theorem dJ6_bitCount_0f7a4_36 : decode cJ6_bitCount_0f7a4 36 = .ok (.bipush 8, 2) := by decide +kernel
theorem dJ6_bitCount_0f7a4_38 : decode cJ6_bitCount_0f7a4 38 = .ok (.iushr, 1) := by decide +kernel
theorem dJ6_bitCount_0f7a4_39 : decode cJ6_bitCount_0f7a4 39 = .ok (.iadd, 1) := by decide +kernel
theorem dJ6_bitCount_0f7a4_40 : decode cJ6_bitCount_0f7a4 40 = .ok (.istore_n 0, 1) := by decide +kernel
theorem dJ6_bitCount_0f7a4_41 : decode cJ6_bitCount_0f7a4 41 = .ok (.iload_n 0, 1) := by decide +kernel
theorem dJ6_bitCount_0f7a4_42 : decode cJ6_bitCount_0f7a4 42 = .ok (.iload_n 0, 1) := by decide +kernel
theorem dJ6_bitCount_0f7a4_43 : decode cJ6_bitCount_0f7a4 43 = .ok (.bipush 16, 2) := by decide +kernel
theorem dJ6_bitCount_0f7a4_45 : decode cJ6_bitCount_0f7a4 45 = .ok (.iushr, 1) := by decide +kernel
theorem dJ6_bitCount_0f7a4_46 : decode cJ6_bitCount_0f7a4 46 = .ok (.iadd, 1) := by decide +kernel
theorem dJ6_bitCount_0f7a4_47 : decode cJ6_bitCount_0f7a4 47 = .ok (.istore_n 0, 1) := by decide +kernel
theorem dJ6_bitCount_0f7a4_48 : decode cJ6_bitCount_0f7a4 48 = .ok (.iload_n 0, 1) := by decide +kernel
theorem dJ6_bitCount_0f7a4_49 : decode cJ6_bitCount_0f7a4 49 = .ok (.bipush 63, 2) := by decide +kernel
theorem dJ6_bitCount_0f7a4_51 : decode cJ6_bitCount_0f7a4 51 = .ok (.iand, 1) := by decide +kernel
theorem dJ6_bitCount_0f7a4_52 : decode cJ6_bitCount_0f7a4 52 = .ok (.ireturn, 1) := by decide +kernel
theorem dJ9_abs_0f7a4_0 : decode cJ9_abs_0f7a4 0 = .ok (.iload_n 0, 1) := by decide +kernel
theorem dJ9_abs_0f7a4_1 : decode cJ9_abs_0f7a4 1 = .ok (.ifCond .ge 8, 3) := by decide +kernel
theorem dJ9_abs_0f7a4_4 : decode cJ9_abs_0f7a4 4 = .ok (.iload_n 0, 1) := by decide +kernel
theorem dJ9_abs_0f7a4_5 : decode cJ9_abs_0f7a4 5 = .ok (.ineg, 1) := by decide +kernel
theorem dJ9_abs_0f7a4_6 : decode cJ9_abs_0f7a4 6 = .ok (.goto 4, 3) := by decide +kernel
theorem dJ9_abs_0f7a4_9 : decode cJ9_abs_0f7a4 9 = .ok (.iload_n 0, 1) := by decide +kernel
theorem dJ9_abs_0f7a4_10 : decode cJ9_abs_0f7a4 10 = .ok (.ireturn, 1) := by decide +kernel
theorem dJ9_max_7cf53_0 : decode cJ9_max_7cf53 0 = .ok (.iload_n 0, 1) := by decide +kernel
theorem dJ9_max_7cf53_1 : decode cJ9_max_7cf53 1 = .ok (.iload_n 1, 1) := by decide +kernel
theorem dJ9_max_7cf53_2 : decode cJ9_max_7cf53 2 = .ok (.if_icmp .lt 7, 3) := by decide +kernel
theorem dJ9_max_7cf53_5 : decode cJ9_max_7cf53 5 = .ok (.iload_n 0, 1) := by decide +kernel
theorem dJ9_max_7cf53_6 : decode cJ9_max_7cf53 6 = .ok (.goto 4, 3) := by decide +kernel
theorem dJ9_max_7cf53_9 : decode cJ9_max_7cf53 9 = .ok (.iload_n 1, 1) := by decide +kernel
theorem dJ9_max_7cf53_10 : decode cJ9_max_7cf53 10 = .ok (.ireturn, 1) := by decide +kernel
theorem dJ9_min_7cf53_0 : decode cJ9_min_7cf53 0 = .ok (.iload_n 0, 1) := by decide +kernel
theorem dJ9_min_7cf53_1 : decode cJ9_min_7cf53 1 = .ok (.iload_n 1, 1) := by decide +kernel
theorem dJ9_min_7cf53_2 : decode cJ9_min_7cf53 2 = .ok (.if_icmp .gt 7, 3) := by decide +kernel
theorem dJ9_min_7cf53_5 : decode cJ9_min_7cf53 5 = .ok (.iload_n 0, 1) := by decide +kernel
theorem dJ9_min_7cf53_6 : decode cJ9_min_7cf53 6 = .ok (.goto 4, 3) := by decide +kernel
theorem dJ9_min_7cf53_9 : decode cJ9_min_7cf53 9 = .ok (.iload_n 1, 1) := by decide +kernel
theorem dJ9_min_7cf53_10 : decode cJ9_min_7cf53 10 = .ok (.ireturn, 1) := by decide +kernel
