set_option maxRecDepth 20000 in
theorem ggX0_init_X2_init : GoodIn wsX0_init wsX2_init := goodIn_r _ [11, 12, 2, 3, 13, 14, 15, 16, 17, 18] (by decide +kernel) (by decide +kernel)
set_option maxRecDepth 20000 in
theorem gX0_init_X2_init_n11 : GoodIn wsX0_init (wsX2_init) := ggX0_init_X2_init
theorem dX0_init_0 : decode cX0_init 0 = .ok (.aload_n 0, 1) := by decide +kernel
theorem dX0_init_1 : decode cX0_init 1 = .ok (.invokespecial 3, 3) := by decide +kernel
theorem dX0_init_4 : decode cX0_init 4 = .ok (.aload_n 0, 1) := by decide +kernel
theorem dX0_init_5 : decode cX0_init 5 = .ok (.new 9, 3) := by decide +kernel
theorem dX0_init_8 : decode cX0_init 8 = .ok (.dup, 1) := by decide +kernel
theorem dX0_init_9 : decode cX0_init 9 = .ok (.invokespecial 11, 3) := by decide +kernel
theorem dX0_init_12 : decode cX0_init 12 = .ok (.putfield 12, 3) := by decide +kernel
theorem dX0_init_15 : decode cX0_init 15 = .ok (.aload_n 0, 1) := by decide +kernel
theorem dX0_init_16 : decode cX0_init 16 = .ok (.sipush 181, 3) := by decide +kernel
theorem dX0_init_19 : decode cX0_init 19 = .ok (.newarray .boolean, 2) := by decide +kernel
theorem dX0_init_21 : decode cX0_init 21 = .ok (.putfield 18, 3) := by decide +kernel
theorem dX0_init_24 : decode cX0_init 24 = .ok (.return_, 1) := by decide +kernel
set_option maxRecDepth 20000 in
theorem ggX0_leastFold_X5_foldLimit : GoodIn wsX0_leastFold wsX5_foldLimit := goodIn_r _ [6, 7, 8, 9, 5, 10, 11, 12, 13, 14, 15, 49, 50, 51, 52] (by decide +kernel) (by decide +kernel)
set_option maxRecDepth 20000 in
theorem gX0_leastFold_X5_foldLimit : GoodIn wsX0_leastFold (wsV RX0 22 RX5 yX5_foldLimit wsX5_foldLimit) := goodIn_app (goodIn_of _ (by decide +kernel)) ggX0_leastFold_X5_foldLimit
set_option maxRecDepth 20000 in
theorem ggX0_leastFold_X5_isFold : GoodIn wsX0_leastFold wsX5_isFold := goodIn_r _ [19, 20, 21, 22, 3, 4, 5, 6, 7, 8, 9, 10, 11, 12, 13, 14, 15, 49, 50, 51, 52] (by decide +kernel) (by decide +kernel)
set_option maxRecDepth 20000 in
theorem gX0_leastFold_X5_isFold : GoodIn wsX0_leastFold (wsV RX0 28 RX5 yX5_isFold wsX5_isFold) := goodIn_app (goodIn_of _ (by decide +kernel)) ggX0_leastFold_X5_isFold
set_option maxRecDepth 20000 in
theorem ggX0_leastFold_X2_layOut : GoodIn wsX0_leastFold wsX2_layOut := goodIn_r _ [27, 28, 29, 30, 26, 31, 32, 33, 14, 34, 35, 36, 37, 38, 39, 13, 15, 40, 41, 42, 49, 50, 51, 52, 53, 54, 55, 56] (by decide +kernel) (by decide +kernel)
set_option maxRecDepth 20000 in
theorem gX0_leastFold_X2_layOut : GoodIn wsX0_leastFold (wsV RX0 32 RX2 yX2_layOut wsX2_layOut) := goodIn_app (goodIn_of _ (by decide +kernel)) ggX0_leastFold_X2_layOut
set_option maxRecDepth 20000 in
theorem ggX0_leastFold_X2_span : GoodIn wsX0_leastFold wsX2_span := goodIn_r _ [46, 37, 36, 53, 54, 55, 56] (by decide +kernel) (by decide +kernel)
set_option maxRecDepth 20000 in
theorem gX0_leastFold_X2_span : GoodIn wsX0_leastFold (wsV RX0 36 RX2 yX2_span wsX2_span) := goodIn_app (goodIn_of _ (by decide +kernel)) ggX0_leastFold_X2_span
theorem dX0_leastFold_0 : decode cX0_leastFold 0 = .ok (.bipush (-9), 2) := by decide +kernel
theorem dX0_leastFold_2 : decode cX0_leastFold 2 = .ok (.istore_n 2, 1) := by decide +kernel
theorem dX0_leastFold_3 : decode cX0_leastFold 3 = .ok (.sipush 181, 3) := by decide +kernel
theorem dX0_leastFold_6 : decode cX0_leastFold 6 = .ok (.istore_n 3, 1) := by decide +kernel
theorem dX0_leastFold_7 : decode cX0_leastFold 7 = .ok (.iconst 0, 1) := by decide +kernel
theorem dX0_leastFold_8 : decode cX0_leastFold 8 = .ok (.istore 4, 2) := by decide +kernel
theorem dX0_leastFold_10 : decode cX0_leastFold 10 = .ok (.iload 4, 2) := by decide +kernel
theorem dX0_leastFold_12 : decode cX0_leastFold 12 = .ok (.aload_n 1, 1) := by decide +kernel
theorem dX0_leastFold_13 : decode cX0_leastFold 13 = .ok (.invokevirtual 22, 3) := by decide +kernel
theorem dX0_leastFold_16 : decode cX0_leastFold 16 = .ok (.if_icmp .ge 50, 3) := by decide +kernel
theorem dX0_leastFold_19 : decode cX0_leastFold 19 = .ok (.aload_n 1, 1) := by decide +kernel
theorem dX0_leastFold_20 : decode cX0_leastFold 20 = .ok (.iload 4, 2) := by decide +kernel
theorem dX0_leastFold_22 : decode cX0_leastFold 22 = .ok (.invokevirtual 28, 3) := by decide +kernel
theorem dX0_leastFold_25 : decode cX0_leastFold 25 = .ok (.ifCond .eq 35, 3) := by decide +kernel
theorem dX0_leastFold_28 : decode cX0_leastFold 28 = .ok (.aload_n 0, 1) := by decide +kernel
theorem dX0_leastFold_29 : decode cX0_leastFold 29 = .ok (.getfield 12, 3) := by decide +kernel
theorem dX0_leastFold_32 : decode cX0_leastFold 32 = .ok (.aload_n 1, 1) := by decide +kernel
theorem dX0_leastFold_33 : decode cX0_leastFold 33 = .ok (.iload 4, 2) := by decide +kernel
theorem dX0_leastFold_35 : decode cX0_leastFold 35 = .ok (.invokevirtual 32, 3) := by decide +kernel
theorem dX0_leastFold_38 : decode cX0_leastFold 38 = .ok (.aload_n 0, 1) := by decide +kernel
theorem dX0_leastFold_39 : decode cX0_leastFold 39 = .ok (.getfield 12, 3) := by decide +kernel
theorem dX0_leastFold_42 : decode cX0_leastFold 42 = .ok (.invokevirtual 36, 3) := by decide +kernel
theorem dX0_leastFold_45 : decode cX0_leastFold 45 = .ok (.iload_n 3, 1) := by decide +kernel
theorem dX0_leastFold_46 : decode cX0_leastFold 46 = .ok (.if_icmp .ge 14, 3) := by decide +kernel
theorem dX0_leastFold_49 : decode cX0_leastFold 49 = .ok (.aload_n 0, 1) := by decide +kernel
theorem dX0_leastFold_50 : decode cX0_leastFold 50 = .ok (.getfield 12, 3) := by decide +kernel
theorem dX0_leastFold_53 : decode cX0_leastFold 53 = .ok (.invokevirtual 36, 3) := by decide +kernel
theorem dX0_leastFold_56 : decode cX0_leastFold 56 = .ok (.istore_n 3, 1) := by decide +kernel
theorem dX0_leastFold_57 : decode cX0_leastFold 57 = .ok (.iload 4, 2) := by decide +kernel
theorem dX0_leastFold_59 : decode cX0_leastFold 59 = .ok (.istore_n 2, 1) := by decide +kernel
theorem dX0_leastFold_60 : decode cX0_leastFold 60 = .ok (.iinc 4 1, 3) := by decide +kernel
theorem dX0_leastFold_63 : decode cX0_leastFold 63 = .ok (.goto (-53), 3) := by decide +kernel
theorem dX0_leastFold_66 : decode cX0_leastFold 66 = .ok (.iload_n 2, 1) := by decide +kernel
theorem dX0_leastFold_67 : decode cX0_leastFold 67 = .ok (.ireturn, 1) := by decide +kernel
set_option maxRecDepth 20000 in
theorem ggX0_leastSpan_X0_leastFold : GoodIn wsX0_leastSpan wsX0_leastFold := goodIn_r _ [6, 1, 7, 8, 9, 10, 11, 12, 13, 14, 15, 16, 17, 18, 19, 20, 21, 22, 23, 24, 25, 26, 27, 28, 29, 30, 31, 32, 33, 34, 35, 36, 37, 38, 39, 40, 41, 42, 43, 44, 45, 46, 47, 48, 49, 50, 51, 52, 53, 54, 55, 56, 57, 58, 59, 60, 61] (by decide +kernel) (by decide +kernel)
set_option maxRecDepth 20000 in
theorem gX0_leastSpan_X0_leastFold : GoodIn wsX0_leastSpan (wsV RX0 39 RX0 yX0_leastFold wsX0_leastFold) := goodIn_app (goodIn_of _ (by decide +kernel)) ggX0_leastSpan_X0_leastFold
set_option maxRecDepth 20000 in
theorem ggX0_leastSpan_X2_layOut : GoodIn wsX0_leastSpan wsX2_layOut := goodIn_r _ [32, 33, 34, 35, 31, 36, 37, 38, 19, 39, 40, 41, 42, 43, 44, 18, 20, 45, 46, 47, 54, 55, 56, 57, 58, 59, 60, 61] (by decide +kernel) (by decide +kernel)
set_option maxRecDepth 20000 in
theorem gX0_leastSpan_X2_layOut : GoodIn wsX0_leastSpan (wsV RX0 32 RX2 yX2_layOut wsX2_layOut) := goodIn_app (goodIn_of _ (by decide +kernel)) ggX0_leastSpan_X2_layOut
set_option maxRecDepth 20000 in
theorem ggX0_leastSpan_X2_span : GoodIn wsX0_leastSpan wsX2_span := goodIn_r _ [51, 42, 41, 58, 59, 60, 61] (by decide +kernel) (by decide +kernel)
set_option maxRecDepth 20000 in
theorem gX0_leastSpan_X2_span : GoodIn wsX0_leastSpan (wsV RX0 36 RX2 yX2_span wsX2_span) := goodIn_app (goodIn_of _ (by decide +kernel)) ggX0_leastSpan_X2_span
theorem dX0_leastSpan_0 : decode cX0_leastSpan 0 = .ok (.aload_n 0, 1) := by decide +kernel
theorem dX0_leastSpan_1 : decode cX0_leastSpan 1 = .ok (.getfield 12, 3) := by decide +kernel
theorem dX0_leastSpan_4 : decode cX0_leastSpan 4 = .ok (.aload_n 1, 1) := by decide +kernel
theorem dX0_leastSpan_5 : decode cX0_leastSpan 5 = .ok (.aload_n 0, 1) := by decide +kernel
theorem dX0_leastSpan_6 : decode cX0_leastSpan 6 = .ok (.aload_n 1, 1) := by decide +kernel
theorem dX0_leastSpan_7 : decode cX0_leastSpan 7 = .ok (.invokevirtual 39, 3) := by decide +kernel
theorem dX0_leastSpan_10 : decode cX0_leastSpan 10 = .ok (.invokevirtual 32, 3) := by decide +kernel
theorem dX0_leastSpan_13 : decode cX0_leastSpan 13 = .ok (.aload_n 0, 1) := by decide +kernel
theorem dX0_leastSpan_14 : decode cX0_leastSpan 14 = .ok (.getfield 12, 3) := by decide +kernel
theorem dX0_leastSpan_17 : decode cX0_leastSpan 17 = .ok (.invokevirtual 36, 3) := by decide +kernel
theorem dX0_leastSpan_20 : decode cX0_leastSpan 20 = .ok (.ireturn, 1) := by decide +kernel
set_option maxRecDepth 20000 in
theorem ggX0_greatestEnd_X5_foldLimit : GoodIn wsX0_greatestEnd wsX5_foldLimit := goodIn_r _ [10, 11, 12, 13, 9, 14, 15, 16, 3, 4, 5, 54, 55, 56, 57] (by decide +kernel) (by decide +kernel)
set_option maxRecDepth 20000 in
theorem gX0_greatestEnd_X5_foldLimit : GoodIn wsX0_greatestEnd (wsV RX0 22 RX5 yX5_foldLimit wsX5_foldLimit) := goodIn_app (goodIn_of _ (by decide +kernel)) ggX0_greatestEnd_X5_foldLimit
set_option maxRecDepth 20000 in
theorem ggX0_greatestEnd_X5_isFold : GoodIn wsX0_greatestEnd wsX5_isFold := goodIn_r _ [20, 21, 22, 23, 7, 8, 9, 10, 11, 12, 13, 14, 15, 16, 3, 4, 5, 54, 55, 56, 57] (by decide +kernel) (by decide +kernel)
set_option maxRecDepth 20000 in
theorem gX0_greatestEnd_X5_isFold : GoodIn wsX0_greatestEnd (wsV RX0 28 RX5 yX5_isFold wsX5_isFold) := goodIn_app (goodIn_of _ (by decide +kernel)) ggX0_greatestEnd_X5_isFold
set_option maxRecDepth 20000 in
theorem ggX0_greatestEnd_X2_layOut : GoodIn wsX0_greatestEnd wsX2_layOut := goodIn_r _ [28, 29, 30, 31, 27, 32, 33, 34, 4, 35, 36, 37, 38, 39, 40, 3, 5, 41, 42, 43, 54, 55, 56, 57, 58, 59, 60, 61] (by decide +kernel) (by decide +kernel)
set_option maxRecDepth 20000 in
theorem gX0_greatestEnd_X2_layOut : GoodIn wsX0_greatestEnd (wsV RX0 32 RX2 yX2_layOut wsX2_layOut) := goodIn_app (goodIn_of _ (by decide +kernel)) ggX0_greatestEnd_X2_layOut
set_option maxRecDepth 20000 in
theorem ggX0_greatestEnd_X2_lastPlace : GoodIn wsX0_greatestEnd wsX2_lastPlace := goodIn_r _ [47, 36, 48, 49, 50, 27, 51, 39, 58, 59, 60, 61] (by decide +kernel) (by decide +kernel)
set_option maxRecDepth 20000 in
theorem gX0_greatestEnd_X2_lastPlace : GoodIn wsX0_greatestEnd (wsV RX0 43 RX2 yX2_lastPlace wsX2_lastPlace) := goodIn_app (goodIn_of _ (by decide +kernel)) ggX0_greatestEnd_X2_lastPlace
theorem dX0_greatestEnd_0 : decode cX0_greatestEnd 0 = .ok (.sipush (-180), 3) := by decide +kernel
theorem dX0_greatestEnd_3 : decode cX0_greatestEnd 3 = .ok (.istore_n 2, 1) := by decide +kernel
theorem dX0_greatestEnd_4 : decode cX0_greatestEnd 4 = .ok (.iconst 0, 1) := by decide +kernel
theorem dX0_greatestEnd_5 : decode cX0_greatestEnd 5 = .ok (.istore_n 3, 1) := by decide +kernel
theorem dX0_greatestEnd_6 : decode cX0_greatestEnd 6 = .ok (.iload_n 3, 1) := by decide +kernel
theorem dX0_greatestEnd_7 : decode cX0_greatestEnd 7 = .ok (.aload_n 1, 1) := by decide +kernel
theorem dX0_greatestEnd_8 : decode cX0_greatestEnd 8 = .ok (.invokevirtual 22, 3) := by decide +kernel
theorem dX0_greatestEnd_11 : decode cX0_greatestEnd 11 = .ok (.if_icmp .ge 38, 3) := by decide +kernel
theorem dX0_greatestEnd_14 : decode cX0_greatestEnd 14 = .ok (.aload_n 1, 1) := by decide +kernel
theorem dX0_greatestEnd_15 : decode cX0_greatestEnd 15 = .ok (.iload_n 3, 1) := by decide +kernel
theorem dX0_greatestEnd_16 : decode cX0_greatestEnd 16 = .ok (.invokevirtual 28, 3) := by decide +kernel
theorem dX0_greatestEnd_19 : decode cX0_greatestEnd 19 = .ok (.ifCond .eq 24, 3) := by decide +kernel
theorem dX0_greatestEnd_22 : decode cX0_greatestEnd 22 = .ok (.aload_n 0, 1) := by decide +kernel
theorem dX0_greatestEnd_23 : decode cX0_greatestEnd 23 = .ok (.getfield 12, 3) := by decide +kernel
theorem dX0_greatestEnd_26 : decode cX0_greatestEnd 26 = .ok (.aload_n 1, 1) := by decide +kernel
theorem dX0_greatestEnd_27 : decode cX0_greatestEnd 27 = .ok (.iload_n 3, 1) := by decide +kernel
theorem dX0_greatestEnd_28 : decode cX0_greatestEnd 28 = .ok (.invokevirtual 32, 3) := by decide +kernel
theorem dX0_greatestEnd_31 : decode cX0_greatestEnd 31 = .ok (.iload_n 2, 1) := by decide +kernel
theorem dX0_greatestEnd_32 : decode cX0_greatestEnd 32 = .ok (.aload_n 0, 1) := by decide +kernel
theorem dX0_greatestEnd_33 : decode cX0_greatestEnd 33 = .ok (.getfield 12, 3) := by decide +kernel
theorem dX0_greatestEnd_36 : decode cX0_greatestEnd 36 = .ok (.invokevirtual 43, 3) := by decide +kernel
theorem dX0_greatestEnd_39 : decode cX0_greatestEnd 39 = .ok (.invokestatic 46, 3) := by decide +kernel
theorem dX0_greatestEnd_42 : decode cX0_greatestEnd 42 = .ok (.istore_n 2, 1) := by decide +kernel
theorem dX0_greatestEnd_43 : decode cX0_greatestEnd 43 = .ok (.iinc 3 1, 3) := by decide +kernel
theorem dX0_greatestEnd_46 : decode cX0_greatestEnd 46 = .ok (.goto (-40), 3) := by decide +kernel
theorem dX0_greatestEnd_49 : decode cX0_greatestEnd 49 = .ok (.iload_n 2, 1) := by decide +kernel
theorem dX0_greatestEnd_50 : decode cX0_greatestEnd 50 = .ok (.ireturn, 1) := by decide +kernel
set_option maxRecDepth 20000 in
theorem ggX0_goesInto_X2_layOut : GoodIn wsX0_goesInto wsX2_layOut := goodIn_r _ [6, 7, 8, 9, 5, 10, 11, 12, 13, 14, 15, 16, 17, 18, 19, 20, 21, 22, 23, 24, 31, 32, 33, 34, 35, 36, 37, 38] (by decide +kernel) (by decide +kernel)
set_option maxRecDepth 20000 in
theorem gX0_goesInto_X2_layOut : GoodIn wsX0_goesInto (wsV RX0 32 RX2 yX2_layOut wsX2_layOut) := goodIn_app (goodIn_of _ (by decide +kernel)) ggX0_goesInto_X2_layOut
set_option maxRecDepth 20000 in
theorem ggX0_goesInto_X2_span : GoodIn wsX0_goesInto wsX2_span := goodIn_r _ [28, 17, 16, 35, 36, 37, 38] (by decide +kernel) (by decide +kernel)
set_option maxRecDepth 20000 in
theorem gX0_goesInto_X2_span : GoodIn wsX0_goesInto (wsV RX0 36 RX2 yX2_span wsX2_span) := goodIn_app (goodIn_of _ (by decide +kernel)) ggX0_goesInto_X2_span
theorem dX0_goesInto_0 : decode cX0_goesInto 0 = .ok (.aload_n 0, 1) := by decide +kernel
theorem dX0_goesInto_1 : decode cX0_goesInto 1 = .ok (.getfield 12, 3) := by decide +kernel
theorem dX0_goesInto_4 : decode cX0_goesInto 4 = .ok (.aload_n 1, 1) := by decide +kernel
theorem dX0_goesInto_5 : decode cX0_goesInto 5 = .ok (.iload_n 2, 1) := by decide +kernel
theorem dX0_goesInto_6 : decode cX0_goesInto 6 = .ok (.invokevirtual 32, 3) := by decide +kernel
theorem dX0_goesInto_9 : decode cX0_goesInto 9 = .ok (.aload_n 0, 1) := by decide +kernel
theorem dX0_goesInto_10 : decode cX0_goesInto 10 = .ok (.getfield 12, 3) := by decide +kernel
theorem dX0_goesInto_13 : decode cX0_goesInto 13 = .ok (.invokevirtual 36, 3) := by decide +kernel
theorem dX0_goesInto_16 : decode cX0_goesInto 16 = .ok (.iload_n 3, 1) := by decide +kernel
theorem dX0_goesInto_17 : decode cX0_goesInto 17 = .ok (.if_icmp .gt 7, 3) := by decide +kernel
theorem dX0_goesInto_20 : decode cX0_goesInto 20 = .ok (.iconst 1, 1) := by decide +kernel
theorem dX0_goesInto_21 : decode cX0_goesInto 21 = .ok (.goto 4, 3) := by decide +kernel
theorem dX0_goesInto_24 : decode cX0_goesInto 24 = .ok (.iconst 0, 1) := by decide +kernel
theorem dX0_goesInto_25 : decode cX0_goesInto 25 = .ok (.ireturn, 1) := by decide +kernel
set_option maxRecDepth 20000 in
theorem ggX0_endsAt_X2_layOut : GoodIn wsX0_endsAt wsX2_layOut := goodIn_r _ [6, 7, 8, 9, 5, 10, 11, 12, 13, 14, 15, 16, 17, 18, 19, 20, 21, 22, 23, 24, 35, 36, 37, 38, 39, 40, 41, 42] (by decide +kernel) (by decide +kernel)
set_option maxRecDepth 20000 in
theorem gX0_endsAt_X2_layOut : GoodIn wsX0_endsAt (wsV RX0 32 RX2 yX2_layOut wsX2_layOut) := goodIn_app (goodIn_of _ (by decide +kernel)) ggX0_endsAt_X2_layOut
set_option maxRecDepth 20000 in
theorem ggX0_endsAt_X2_lastPlace : GoodIn wsX0_endsAt wsX2_lastPlace := goodIn_r _ [28, 15, 29, 30, 31, 5, 32, 18, 39, 40, 41, 42] (by decide +kernel) (by decide +kernel)
set_option maxRecDepth 20000 in
theorem gX0_endsAt_X2_lastPlace : GoodIn wsX0_endsAt (wsV RX0 43 RX2 yX2_lastPlace wsX2_lastPlace) := goodIn_app (goodIn_of _ (by decide +kernel)) ggX0_endsAt_X2_lastPlace
theorem dX0_endsAt_0 : decode cX0_endsAt 0 = .ok (.aload_n 0, 1) := by decide +kernel
theorem dX0_endsAt_1 : decode cX0_endsAt 1 = .ok (.getfield 12, 3) := by decide +kernel
theorem dX0_endsAt_4 : decode cX0_endsAt 4 = .ok (.aload_n 1, 1) := by decide +kernel
theorem dX0_endsAt_5 : decode cX0_endsAt 5 = .ok (.iload_n 2, 1) := by decide +kernel
theorem dX0_endsAt_6 : decode cX0_endsAt 6 = .ok (.invokevirtual 32, 3) := by decide +kernel
theorem dX0_endsAt_9 : decode cX0_endsAt 9 = .ok (.aload_n 0, 1) := by decide +kernel
theorem dX0_endsAt_10 : decode cX0_endsAt 10 = .ok (.getfield 12, 3) := by decide +kernel
theorem dX0_endsAt_13 : decode cX0_endsAt 13 = .ok (.invokevirtual 43, 3) := by decide +kernel
theorem dX0_endsAt_16 : decode cX0_endsAt 16 = .ok (.iload_n 3, 1) := by decide +kernel
theorem dX0_endsAt_17 : decode cX0_endsAt 17 = .ok (.if_icmp .ne 7, 3) := by decide +kernel
theorem dX0_endsAt_20 : decode cX0_endsAt 20 = .ok (.iconst 1, 1) := by decide +kernel
theorem dX0_endsAt_21 : decode cX0_endsAt 21 = .ok (.goto 4, 3) := by decide +kernel
theorem dX0_endsAt_24 : decode cX0_endsAt 24 = .ok (.iconst 0, 1) := by decide +kernel
theorem dX0_endsAt_25 : decode cX0_endsAt 25 = .ok (.ireturn, 1) := by decide +kernel
set_option maxRecDepth 20000 in
theorem ggX0_howManyGoInto_X5_foldLimit : GoodIn wsX0_howManyGoInto wsX5_foldLimit := goodIn_r _ [5, 6, 7, 8, 4, 9, 10, 11, 12, 13, 14, 52, 53, 54, 55] (by decide +kernel) (by decide +kernel)
set_option maxRecDepth 20000 in
theorem gX0_howManyGoInto_X5_foldLimit : GoodIn wsX0_howManyGoInto (wsV RX0 22 RX5 yX5_foldLimit wsX5_foldLimit) := goodIn_app (goodIn_of _ (by decide +kernel)) ggX0_howManyGoInto_X5_foldLimit
set_option maxRecDepth 20000 in
theorem ggX0_howManyGoInto_X5_isFold : GoodIn wsX0_howManyGoInto wsX5_isFold := goodIn_r _ [18, 19, 20, 21, 2, 3, 4, 5, 6, 7, 8, 9, 10, 11, 12, 13, 14, 52, 53, 54, 55] (by decide +kernel) (by decide +kernel)
set_option maxRecDepth 20000 in
theorem gX0_howManyGoInto_X5_isFold : GoodIn wsX0_howManyGoInto (wsV RX0 28 RX5 yX5_isFold wsX5_isFold) := goodIn_app (goodIn_of _ (by decide +kernel)) ggX0_howManyGoInto_X5_isFold
set_option maxRecDepth 20000 in
theorem ggX0_howManyGoInto_X0_goesInto : GoodIn wsX0_howManyGoInto wsX0_goesInto := goodIn_r _ [26, 27, 28, 29, 30, 31, 32, 33, 34, 35, 36, 37, 38, 13, 39, 40, 41, 42, 43, 44, 12, 14, 45, 46, 47, 48, 49, 50, 51, 56, 57, 52, 53, 54, 55, 58, 59, 60, 61] (by decide +kernel) (by decide +kernel)
set_option maxRecDepth 20000 in
theorem gX0_howManyGoInto_X0_goesInto : GoodIn wsX0_howManyGoInto (wsV RX0 52 RX0 yX0_goesInto wsX0_goesInto) := goodIn_app (goodIn_of _ (by decide +kernel)) ggX0_howManyGoInto_X0_goesInto
theorem dX0_howManyGoInto_0 : decode cX0_howManyGoInto 0 = .ok (.iconst 0, 1) := by decide +kernel
theorem dX0_howManyGoInto_1 : decode cX0_howManyGoInto 1 = .ok (.istore_n 3, 1) := by decide +kernel
theorem dX0_howManyGoInto_2 : decode cX0_howManyGoInto 2 = .ok (.iconst 0, 1) := by decide +kernel
theorem dX0_howManyGoInto_3 : decode cX0_howManyGoInto 3 = .ok (.istore 4, 2) := by decide +kernel
theorem dX0_howManyGoInto_5 : decode cX0_howManyGoInto 5 = .ok (.iload 4, 2) := by decide +kernel
theorem dX0_howManyGoInto_7 : decode cX0_howManyGoInto 7 = .ok (.aload_n 1, 1) := by decide +kernel
theorem dX0_howManyGoInto_8 : decode cX0_howManyGoInto 8 = .ok (.invokevirtual 22, 3) := by decide +kernel
theorem dX0_howManyGoInto_11 : decode cX0_howManyGoInto 11 = .ok (.if_icmp .ge 32, 3) := by decide +kernel
theorem dX0_howManyGoInto_14 : decode cX0_howManyGoInto 14 = .ok (.aload_n 1, 1) := by decide +kernel
theorem dX0_howManyGoInto_15 : decode cX0_howManyGoInto 15 = .ok (.iload 4, 2) := by decide +kernel
theorem dX0_howManyGoInto_17 : decode cX0_howManyGoInto 17 = .ok (.invokevirtual 28, 3) := by decide +kernel
theorem dX0_howManyGoInto_20 : decode cX0_howManyGoInto 20 = .ok (.ifCond .eq 17, 3) := by decide +kernel
theorem dX0_howManyGoInto_23 : decode cX0_howManyGoInto 23 = .ok (.aload_n 0, 1) := by decide +kernel
theorem dX0_howManyGoInto_24 : decode cX0_howManyGoInto 24 = .ok (.aload_n 1, 1) := by decide +kernel
theorem dX0_howManyGoInto_25 : decode cX0_howManyGoInto 25 = .ok (.iload 4, 2) := by decide +kernel
theorem dX0_howManyGoInto_27 : decode cX0_howManyGoInto 27 = .ok (.iload_n 2, 1) := by decide +kernel
theorem dX0_howManyGoInto_28 : decode cX0_howManyGoInto 28 = .ok (.invokevirtual 52, 3) := by decide +kernel
theorem dX0_howManyGoInto_31 : decode cX0_howManyGoInto 31 = .ok (.ifCond .eq 6, 3) := by decide +kernel
theorem dX0_howManyGoInto_34 : decode cX0_howManyGoInto 34 = .ok (.iinc 3 1, 3) := by decide +kernel
theorem dX0_howManyGoInto_37 : decode cX0_howManyGoInto 37 = .ok (.iinc 4 1, 3) := by decide +kernel
theorem dX0_howManyGoInto_40 : decode cX0_howManyGoInto 40 = .ok (.goto (-35), 3) := by decide +kernel
theorem dX0_howManyGoInto_43 : decode cX0_howManyGoInto 43 = .ok (.iload_n 3, 1) := by decide +kernel
theorem dX0_howManyGoInto_44 : decode cX0_howManyGoInto 44 = .ok (.ireturn, 1) := by decide +kernel
set_option maxRecDepth 20000 in
theorem ggX0_nearestFold_X5_foldLimit : GoodIn wsX0_nearestFold wsX5_foldLimit := goodIn_r _ [5, 6, 7, 8, 4, 9, 10, 11, 12, 13, 14, 71, 72, 73, 74] (by decide +kernel) (by decide +kernel)
set_option maxRecDepth 20000 in
theorem gX0_nearestFold_X5_foldLimit : GoodIn wsX0_nearestFold (wsV RX0 22 RX5 yX5_foldLimit wsX5_foldLimit) := goodIn_app (goodIn_of _ (by decide +kernel)) ggX0_nearestFold_X5_foldLimit
set_option maxRecDepth 20000 in
theorem ggX0_nearestFold_J6_bitCount_0f7a4 : GoodIn wsX0_nearestFold wsJ6_bitCount_0f7a4 := goodIn_r _ [18, 19, 20, 21] (by decide +kernel) (by decide +kernel)
set_option maxRecDepth 20000 in
theorem gX0_nearestFold_J6_bitCount_0f7a4 : GoodIn wsX0_nearestFold (va_wsS RX0 60 yJ6_bitCount_0f7a4 wsJ6_bitCount_0f7a4) := goodIn_app (goodIn_of _ (by decide +kernel)) ggX0_nearestFold_J6_bitCount_0f7a4
set_option maxRecDepth 20000 in
theorem ggX0_nearestFold_X5_isFold : GoodIn wsX0_nearestFold wsX5_isFold := goodIn_r _ [25, 26, 27, 28, 2, 3, 4, 5, 6, 7, 8, 9, 10, 11, 12, 13, 14, 71, 72, 73, 74] (by decide +kernel) (by decide +kernel)
set_option maxRecDepth 20000 in
theorem gX0_nearestFold_X5_isFold : GoodIn wsX0_nearestFold (wsV RX0 28 RX5 yX5_isFold wsX5_isFold) := goodIn_app (goodIn_of _ (by decide +kernel)) ggX0_nearestFold_X5_isFold
set_option maxRecDepth 20000 in
theorem ggX0_nearestFold_X0_endsAt : GoodIn wsX0_nearestFold wsX0_endsAt := goodIn_r _ [33, 34, 35, 36, 37, 38, 39, 40, 41, 42, 43, 44, 45, 13, 46, 47, 48, 49, 50, 51, 12, 14, 52, 53, 54, 55, 56, 57, 58, 59, 60, 61, 62, 75, 76, 71, 72, 73, 74, 77, 78, 79, 80] (by decide +kernel) (by decide +kernel)
set_option maxRecDepth 20000 in
theorem gX0_nearestFold_X0_endsAt : GoodIn wsX0_nearestFold (wsV RX0 66 RX0 yX0_endsAt wsX0_endsAt) := goodIn_app (goodIn_of _ (by decide +kernel)) ggX0_nearestFold_X0_endsAt
set_option maxRecDepth 20000 in
theorem ggX0_nearestFold_X0_goesInto : GoodIn wsX0_nearestFold wsX0_goesInto := goodIn_r _ [66, 34, 35, 36, 37, 38, 39, 40, 41, 42, 43, 44, 45, 13, 46, 47, 48, 49, 50, 51, 12, 14, 52, 53, 54, 67, 68, 69, 70, 75, 76, 71, 72, 73, 74, 77, 78, 79, 80] (by decide +kernel) (by decide +kernel)
set_option maxRecDepth 20000 in
theorem gX0_nearestFold_X0_goesInto : GoodIn wsX0_nearestFold (wsV RX0 52 RX0 yX0_goesInto wsX0_goesInto) := goodIn_app (goodIn_of _ (by decide +kernel)) ggX0_nearestFold_X0_goesInto
theorem dX0_nearestFold_0 : decode cX0_nearestFold 0 = .ok (.bipush (-9), 2) := by decide +kernel
theorem dX0_nearestFold_2 : decode cX0_nearestFold 2 = .ok (.istore 4, 2) := by decide +kernel
theorem dX0_nearestFold_4 : decode cX0_nearestFold 4 = .ok (.bipush 9, 2) := by decide +kernel
theorem dX0_nearestFold_6 : decode cX0_nearestFold 6 = .ok (.istore 5, 2) := by decide +kernel
theorem dX0_nearestFold_8 : decode cX0_nearestFold 8 = .ok (.iconst 0, 1) := by decide +kernel
theorem dX0_nearestFold_9 : decode cX0_nearestFold 9 = .ok (.istore 6, 2) := by decide +kernel
theorem dX0_nearestFold_11 : decode cX0_nearestFold 11 = .ok (.iload 6, 2) := by decide +kernel
theorem dX0_nearestFold_13 : decode cX0_nearestFold 13 = .ok (.aload_n 1, 1) := by decide +kernel
theorem dX0_nearestFold_14 : decode cX0_nearestFold 14 = .ok (.invokevirtual 22, 3) := by decide +kernel
theorem dX0_nearestFold_17 : decode cX0_nearestFold 17 = .ok (.if_icmp .ge 74, 3) := by decide +kernel
theorem dX0_nearestFold_20 : decode cX0_nearestFold 20 = .ok (.iload 6, 2) := by decide +kernel
theorem dX0_nearestFold_22 : decode cX0_nearestFold 22 = .ok (.aload_n 1, 1) := by decide +kernel
theorem dX0_nearestFold_23 : decode cX0_nearestFold 23 = .ok (.getfield 56, 3) := by decide +kernel
theorem dX0_nearestFold_26 : decode cX0_nearestFold 26 = .ok (.ixor, 1) := by decide +kernel
theorem dX0_nearestFold_27 : decode cX0_nearestFold 27 = .ok (.invokestatic 60, 3) := by decide +kernel
theorem dX0_nearestFold_30 : decode cX0_nearestFold 30 = .ok (.istore 7, 2) := by decide +kernel
theorem dX0_nearestFold_32 : decode cX0_nearestFold 32 = .ok (.iload 7, 2) := by decide +kernel
theorem dX0_nearestFold_34 : decode cX0_nearestFold 34 = .ok (.iload 5, 2) := by decide +kernel
theorem dX0_nearestFold_36 : decode cX0_nearestFold 36 = .ok (.if_icmp .ge 49, 3) := by decide +kernel
theorem dX0_nearestFold_39 : decode cX0_nearestFold 39 = .ok (.aload_n 1, 1) := by decide +kernel
theorem dX0_nearestFold_40 : decode cX0_nearestFold 40 = .ok (.iload 6, 2) := by decide +kernel
theorem dX0_nearestFold_42 : decode cX0_nearestFold 42 = .ok (.invokevirtual 28, 3) := by decide +kernel
theorem dX0_nearestFold_45 : decode cX0_nearestFold 45 = .ok (.ifCond .eq 40, 3) := by decide +kernel
theorem dX0_nearestFold_48 : decode cX0_nearestFold 48 = .ok (.iload_n 3, 1) := by decide +kernel
theorem dX0_nearestFold_49 : decode cX0_nearestFold 49 = .ok (.ifCond .eq 17, 3) := by decide +kernel
theorem dX0_nearestFold_52 : decode cX0_nearestFold 52 = .ok (.aload_n 0, 1) := by decide +kernel
theorem dX0_nearestFold_53 : decode cX0_nearestFold 53 = .ok (.aload_n 1, 1) := by decide +kernel
theorem dX0_nearestFold_54 : decode cX0_nearestFold 54 = .ok (.iload 6, 2) := by decide +kernel
theorem dX0_nearestFold_56 : decode cX0_nearestFold 56 = .ok (.iload_n 2, 1) := by decide +kernel
theorem dX0_nearestFold_57 : decode cX0_nearestFold 57 = .ok (.invokevirtual 66, 3) := by decide +kernel
theorem dX0_nearestFold_60 : decode cX0_nearestFold 60 = .ok (.ifCond .eq 25, 3) := by decide +kernel
theorem dX0_nearestFold_63 : decode cX0_nearestFold 63 = .ok (.goto 14, 3) := by decide +kernel
theorem dX0_nearestFold_66 : decode cX0_nearestFold 66 = .ok (.aload_n 0, 1) := by decide +kernel
theorem dX0_nearestFold_67 : decode cX0_nearestFold 67 = .ok (.aload_n 1, 1) := by decide +kernel
theorem dX0_nearestFold_68 : decode cX0_nearestFold 68 = .ok (.iload 6, 2) := by decide +kernel
theorem dX0_nearestFold_70 : decode cX0_nearestFold 70 = .ok (.iload_n 2, 1) := by decide +kernel
theorem dX0_nearestFold_71 : decode cX0_nearestFold 71 = .ok (.invokevirtual 52, 3) := by decide +kernel
theorem dX0_nearestFold_74 : decode cX0_nearestFold 74 = .ok (.ifCond .eq 11, 3) := by decide +kernel
theorem dX0_nearestFold_77 : decode cX0_nearestFold 77 = .ok (.iload 7, 2) := by decide +kernel
theorem dX0_nearestFold_79 : decode cX0_nearestFold 79 = .ok (.istore 5, 2) := by decide +kernel
theorem dX0_nearestFold_81 : decode cX0_nearestFold 81 = .ok (.iload 6, 2) := by decide +kernel
theorem dX0_nearestFold_83 : decode cX0_nearestFold 83 = .ok (.istore 4, 2) := by decide +kernel
theorem dX0_nearestFold_85 : decode cX0_nearestFold 85 = .ok (.iinc 6 1, 3) := by decide +kernel
theorem dX0_nearestFold_88 : decode cX0_nearestFold 88 = .ok (.goto (-77), 3) := by decide +kernel
theorem dX0_nearestFold_91 : decode cX0_nearestFold 91 = .ok (.iload 4, 2) := by decide +kernel
theorem dX0_nearestFold_93 : decode cX0_nearestFold 93 = .ok (.ireturn, 1) := by decide +kernel
set_option maxRecDepth 20000 in
theorem ggX0_canMeasure_X0_measureAll : GoodIn wsX0_canMeasure wsX0_measureAll := goodIn_r _ [6, 1, 7, 8, 9, 10, 11, 12, 13, 14, 15, 16, 17, 18, 19, 20, 21, 22, 23, 24, 25, 26, 27, 28, 29, 30, 31, 32, 33, 34, 35, 36, 37, 38, 39, 40, 41, 42, 43, 44, 45, 46, 47, 48, 49, 50, 51, 5, 52, 53, 54, 55, 56, 57, 58, 59, 60, 61, 62, 63, 64, 65, 66, 67, 68, 69] (by decide +kernel) (by decide +kernel)
set_option maxRecDepth 20000 in
theorem gX0_canMeasure_X0_measureAll : GoodIn wsX0_canMeasure (wsV RX0 69 RX0 yX0_measureAll wsX0_measureAll) := goodIn_app (goodIn_of _ (by decide +kernel)) ggX0_canMeasure_X0_measureAll
theorem dX0_canMeasure_0 : decode cX0_canMeasure 0 = .ok (.aload_n 0, 1) := by decide +kernel
theorem dX0_canMeasure_1 : decode cX0_canMeasure 1 = .ok (.aload_n 1, 1) := by decide +kernel
theorem dX0_canMeasure_2 : decode cX0_canMeasure 2 = .ok (.invokevirtual 69, 3) := by decide +kernel
theorem dX0_canMeasure_5 : decode cX0_canMeasure 5 = .ok (.iload_n 2, 1) := by decide +kernel
theorem dX0_canMeasure_6 : decode cX0_canMeasure 6 = .ok (.iconst 1, 1) := by decide +kernel
theorem dX0_canMeasure_7 : decode cX0_canMeasure 7 = .ok (.if_icmp .lt 23, 3) := by decide +kernel
theorem dX0_canMeasure_10 : decode cX0_canMeasure 10 = .ok (.iload_n 2, 1) := by decide +kernel
theorem dX0_canMeasure_11 : decode cX0_canMeasure 11 = .ok (.sipush 180, 3) := by decide +kernel
theorem dX0_canMeasure_14 : decode cX0_canMeasure 14 = .ok (.if_icmp .gt 16, 3) := by decide +kernel
theorem dX0_canMeasure_17 : decode cX0_canMeasure 17 = .ok (.aload_n 0, 1) := by decide +kernel
theorem dX0_canMeasure_18 : decode cX0_canMeasure 18 = .ok (.getfield 18, 3) := by decide +kernel
theorem dX0_canMeasure_21 : decode cX0_canMeasure 21 = .ok (.iload_n 2, 1) := by decide +kernel
theorem dX0_canMeasure_22 : decode cX0_canMeasure 22 = .ok (.baload, 1) := by decide +kernel
theorem dX0_canMeasure_23 : decode cX0_canMeasure 23 = .ok (.ifCond .eq 7, 3) := by decide +kernel
theorem dX0_canMeasure_26 : decode cX0_canMeasure 26 = .ok (.iconst 1, 1) := by decide +kernel
theorem dX0_canMeasure_27 : decode cX0_canMeasure 27 = .ok (.goto 4, 3) := by decide +kernel
theorem dX0_canMeasure_30 : decode cX0_canMeasure 30 = .ok (.iconst 0, 1) := by decide +kernel
theorem dX0_canMeasure_31 : decode cX0_canMeasure 31 = .ok (.ireturn, 1) := by decide +kernel
set_option maxRecDepth 20000 in
theorem ggX0_gap_X0_measureAll : GoodIn wsX0_gap wsX0_measureAll := goodIn_r _ [6, 1, 7, 8, 9, 10, 11, 12, 13, 14, 15, 16, 17, 18, 19, 20, 21, 22, 23, 24, 25, 26, 27, 28, 29, 30, 31, 32, 33, 34, 35, 36, 37, 38, 39, 40, 41, 42, 43, 44, 45, 46, 47, 48, 49, 50, 51, 5, 52, 53, 54, 55, 56, 57, 58, 59, 60, 61, 62, 63, 64, 65, 66, 67, 68, 69] (by decide +kernel) (by decide +kernel)
set_option maxRecDepth 20000 in
theorem gX0_gap_X0_measureAll : GoodIn wsX0_gap (wsV RX0 69 RX0 yX0_measureAll wsX0_measureAll) := goodIn_app (goodIn_of _ (by decide +kernel)) ggX0_gap_X0_measureAll
theorem dX0_gap_0 : decode cX0_gap 0 = .ok (.aload_n 0, 1) := by decide +kernel
theorem dX0_gap_1 : decode cX0_gap 1 = .ok (.aload_n 1, 1) := by decide +kernel
theorem dX0_gap_2 : decode cX0_gap 2 = .ok (.invokevirtual 69, 3) := by decide +kernel
theorem dX0_gap_5 : decode cX0_gap 5 = .ok (.iconst 1, 1) := by decide +kernel
theorem dX0_gap_6 : decode cX0_gap 6 = .ok (.istore_n 2, 1) := by decide +kernel
theorem dX0_gap_7 : decode cX0_gap 7 = .ok (.iload_n 2, 1) := by decide +kernel
theorem dX0_gap_8 : decode cX0_gap 8 = .ok (.sipush 180, 3) := by decide +kernel
theorem dX0_gap_11 : decode cX0_gap 11 = .ok (.if_icmp .gt 18, 3) := by decide +kernel
theorem dX0_gap_14 : decode cX0_gap 14 = .ok (.aload_n 0, 1) := by decide +kernel
theorem dX0_gap_15 : decode cX0_gap 15 = .ok (.getfield 18, 3) := by decide +kernel
theorem dX0_gap_18 : decode cX0_gap 18 = .ok (.iload_n 2, 1) := by decide +kernel
theorem dX0_gap_19 : decode cX0_gap 19 = .ok (.baload, 1) := by decide +kernel
theorem dX0_gap_20 : decode cX0_gap 20 = .ok (.ifCond .eq 9, 3) := by decide +kernel
theorem dX0_gap_23 : decode cX0_gap 23 = .ok (.iinc 2 1, 3) := by decide +kernel
theorem dX0_gap_26 : decode cX0_gap 26 = .ok (.goto (-19), 3) := by decide +kernel
theorem dX0_gap_29 : decode cX0_gap 29 = .ok (.iload_n 2, 1) := by decide +kernel
theorem dX0_gap_30 : decode cX0_gap 30 = .ok (.ireturn, 1) := by decide +kernel
set_option maxRecDepth 20000 in
theorem ggX0_measureAll_X5_foldLimit : GoodIn wsX0_measureAll wsX5_foldLimit := goodIn_r _ [7, 8, 9, 10, 6, 11, 12, 13, 14, 15, 16, 58, 59, 60, 61] (by decide +kernel) (by decide +kernel)
set_option maxRecDepth 20000 in
theorem gX0_measureAll_X5_foldLimit : GoodIn wsX0_measureAll (wsV RX0 22 RX5 yX5_foldLimit wsX5_foldLimit) := goodIn_app (goodIn_of _ (by decide +kernel)) ggX0_measureAll_X5_foldLimit
set_option maxRecDepth 20000 in
theorem ggX0_measureAll_X5_isFold : GoodIn wsX0_measureAll wsX5_isFold := goodIn_r _ [20, 21, 22, 23, 4, 5, 6, 7, 8, 9, 10, 11, 12, 13, 14, 15, 16, 58, 59, 60, 61] (by decide +kernel) (by decide +kernel)
set_option maxRecDepth 20000 in
theorem gX0_measureAll_X5_isFold : GoodIn wsX0_measureAll (wsV RX0 28 RX5 yX5_isFold wsX5_isFold) := goodIn_app (goodIn_of _ (by decide +kernel)) ggX0_measureAll_X5_isFold
set_option maxRecDepth 20000 in
theorem ggX0_measureAll_X2_layOut : GoodIn wsX0_measureAll wsX2_layOut := goodIn_r _ [28, 29, 30, 31, 27, 32, 33, 34, 15, 35, 36, 37, 38, 39, 40, 14, 16, 41, 42, 43, 58, 59, 60, 61, 62, 63, 64, 65] (by decide +kernel) (by decide +kernel)
set_option maxRecDepth 20000 in
theorem gX0_measureAll_X2_layOut : GoodIn wsX0_measureAll (wsV RX0 32 RX2 yX2_layOut wsX2_layOut) := goodIn_app (goodIn_of _ (by decide +kernel)) ggX0_measureAll_X2_layOut
set_option maxRecDepth 20000 in
theorem ggX0_measureAll_X0_measureMarks : GoodIn wsX0_measureAll wsX0_measureMarks := goodIn_r _ [48, 2, 49, 50, 15, 51, 1, 52, 53, 54, 27, 55, 36, 39, 56, 57, 62, 63, 64, 65] (by decide +kernel) (by decide +kernel)
set_option maxRecDepth 20000 in
theorem gX0_measureAll_X0_measureMarks : GoodIn wsX0_measureAll (wsV RX0 73 RX0 yX0_measureMarks wsX0_measureMarks) := goodIn_app (goodIn_of _ (by decide +kernel)) ggX0_measureAll_X0_measureMarks
theorem dX0_measureAll_0 : decode cX0_measureAll 0 = .ok (.iconst 0, 1) := by decide +kernel
theorem dX0_measureAll_1 : decode cX0_measureAll 1 = .ok (.istore_n 2, 1) := by decide +kernel
theorem dX0_measureAll_2 : decode cX0_measureAll 2 = .ok (.iload_n 2, 1) := by decide +kernel
theorem dX0_measureAll_3 : decode cX0_measureAll 3 = .ok (.sipush 180, 3) := by decide +kernel
theorem dX0_measureAll_6 : decode cX0_measureAll 6 = .ok (.if_icmp .gt 16, 3) := by decide +kernel
theorem dX0_measureAll_9 : decode cX0_measureAll 9 = .ok (.aload_n 0, 1) := by decide +kernel
theorem dX0_measureAll_10 : decode cX0_measureAll 10 = .ok (.getfield 18, 3) := by decide +kernel
theorem dX0_measureAll_13 : decode cX0_measureAll 13 = .ok (.iload_n 2, 1) := by decide +kernel
theorem dX0_measureAll_14 : decode cX0_measureAll 14 = .ok (.iconst 0, 1) := by decide +kernel
theorem dX0_measureAll_15 : decode cX0_measureAll 15 = .ok (.bastore, 1) := by decide +kernel
theorem dX0_measureAll_16 : decode cX0_measureAll 16 = .ok (.iinc 2 1, 3) := by decide +kernel
theorem dX0_measureAll_19 : decode cX0_measureAll 19 = .ok (.goto (-17), 3) := by decide +kernel
theorem dX0_measureAll_22 : decode cX0_measureAll 22 = .ok (.iconst 0, 1) := by decide +kernel
theorem dX0_measureAll_23 : decode cX0_measureAll 23 = .ok (.istore_n 2, 1) := by decide +kernel
theorem dX0_measureAll_24 : decode cX0_measureAll 24 = .ok (.iload_n 2, 1) := by decide +kernel
theorem dX0_measureAll_25 : decode cX0_measureAll 25 = .ok (.aload_n 1, 1) := by decide +kernel
theorem dX0_measureAll_26 : decode cX0_measureAll 26 = .ok (.invokevirtual 22, 3) := by decide +kernel
theorem dX0_measureAll_29 : decode cX0_measureAll 29 = .ok (.if_icmp .ge 30, 3) := by decide +kernel
theorem dX0_measureAll_32 : decode cX0_measureAll 32 = .ok (.aload_n 1, 1) := by decide +kernel
theorem dX0_measureAll_33 : decode cX0_measureAll 33 = .ok (.iload_n 2, 1) := by decide +kernel
theorem dX0_measureAll_34 : decode cX0_measureAll 34 = .ok (.invokevirtual 28, 3) := by decide +kernel
theorem dX0_measureAll_37 : decode cX0_measureAll 37 = .ok (.ifCond .eq 16, 3) := by decide +kernel
theorem dX0_measureAll_40 : decode cX0_measureAll 40 = .ok (.aload_n 0, 1) := by decide +kernel
theorem dX0_measureAll_41 : decode cX0_measureAll 41 = .ok (.getfield 12, 3) := by decide +kernel
theorem dX0_measureAll_44 : decode cX0_measureAll 44 = .ok (.aload_n 1, 1) := by decide +kernel
theorem dX0_measureAll_45 : decode cX0_measureAll 45 = .ok (.iload_n 2, 1) := by decide +kernel
theorem dX0_measureAll_46 : decode cX0_measureAll 46 = .ok (.invokevirtual 32, 3) := by decide +kernel
theorem dX0_measureAll_49 : decode cX0_measureAll 49 = .ok (.aload_n 0, 1) := by decide +kernel
theorem dX0_measureAll_50 : decode cX0_measureAll 50 = .ok (.invokevirtual 73, 3) := by decide +kernel
theorem dX0_measureAll_53 : decode cX0_measureAll 53 = .ok (.iinc 2 1, 3) := by decide +kernel
theorem dX0_measureAll_56 : decode cX0_measureAll 56 = .ok (.goto (-32), 3) := by decide +kernel
theorem dX0_measureAll_59 : decode cX0_measureAll 59 = .ok (.return_, 1) := by decide +kernel
set_option maxRecDepth 20000 in
theorem ggX0_measureMarks_X2_placeOf : GoodIn wsX0_measureMarks wsX2_placeOf := goodIn_r _ [11, 12, 13, 16, 17, 18, 19] (by decide +kernel) (by decide +kernel)
set_option maxRecDepth 20000 in
theorem gX0_measureMarks_X2_placeOf : GoodIn wsX0_measureMarks (wsV RX0 79 RX2 yX2_placeOf wsX2_placeOf) := goodIn_app (goodIn_of _ (by decide +kernel)) ggX0_measureMarks_X2_placeOf
theorem dX0_measureMarks_0 : decode cX0_measureMarks 0 = .ok (.iconst 0, 1) := by decide +kernel
theorem dX0_measureMarks_1 : decode cX0_measureMarks 1 = .ok (.istore_n 1, 1) := by decide +kernel
theorem dX0_measureMarks_2 : decode cX0_measureMarks 2 = .ok (.iload_n 1, 1) := by decide +kernel
theorem dX0_measureMarks_3 : decode cX0_measureMarks 3 = .ok (.aload_n 0, 1) := by decide +kernel
theorem dX0_measureMarks_4 : decode cX0_measureMarks 4 = .ok (.getfield 12, 3) := by decide +kernel
theorem dX0_measureMarks_7 : decode cX0_measureMarks 7 = .ok (.getfield 76, 3) := by decide +kernel
theorem dX0_measureMarks_10 : decode cX0_measureMarks 10 = .ok (.if_icmp .gt 57, 3) := by decide +kernel
theorem dX0_measureMarks_13 : decode cX0_measureMarks 13 = .ok (.iconst 0, 1) := by decide +kernel
theorem dX0_measureMarks_14 : decode cX0_measureMarks 14 = .ok (.istore_n 2, 1) := by decide +kernel
theorem dX0_measureMarks_15 : decode cX0_measureMarks 15 = .ok (.iload_n 2, 1) := by decide +kernel
theorem dX0_measureMarks_16 : decode cX0_measureMarks 16 = .ok (.iload_n 1, 1) := by decide +kernel
theorem dX0_measureMarks_17 : decode cX0_measureMarks 17 = .ok (.if_icmp .ge 44, 3) := by decide +kernel
theorem dX0_measureMarks_20 : decode cX0_measureMarks 20 = .ok (.aload_n 0, 1) := by decide +kernel
theorem dX0_measureMarks_21 : decode cX0_measureMarks 21 = .ok (.getfield 12, 3) := by decide +kernel
theorem dX0_measureMarks_24 : decode cX0_measureMarks 24 = .ok (.iload_n 1, 1) := by decide +kernel
theorem dX0_measureMarks_25 : decode cX0_measureMarks 25 = .ok (.invokevirtual 79, 3) := by decide +kernel
theorem dX0_measureMarks_28 : decode cX0_measureMarks 28 = .ok (.aload_n 0, 1) := by decide +kernel
theorem dX0_measureMarks_29 : decode cX0_measureMarks 29 = .ok (.getfield 12, 3) := by decide +kernel
theorem dX0_measureMarks_32 : decode cX0_measureMarks 32 = .ok (.iload_n 2, 1) := by decide +kernel
theorem dX0_measureMarks_33 : decode cX0_measureMarks 33 = .ok (.invokevirtual 79, 3) := by decide +kernel
theorem dX0_measureMarks_36 : decode cX0_measureMarks 36 = .ok (.isub, 1) := by decide +kernel
theorem dX0_measureMarks_37 : decode cX0_measureMarks 37 = .ok (.invokestatic 82, 3) := by decide +kernel
theorem dX0_measureMarks_40 : decode cX0_measureMarks 40 = .ok (.istore_n 3, 1) := by decide +kernel
theorem dX0_measureMarks_41 : decode cX0_measureMarks 41 = .ok (.iload_n 3, 1) := by decide +kernel
theorem dX0_measureMarks_42 : decode cX0_measureMarks 42 = .ok (.sipush 180, 3) := by decide +kernel
theorem dX0_measureMarks_45 : decode cX0_measureMarks 45 = .ok (.if_icmp .gt 10, 3) := by decide +kernel
theorem dX0_measureMarks_48 : decode cX0_measureMarks 48 = .ok (.aload_n 0, 1) := by decide +kernel
theorem dX0_measureMarks_49 : decode cX0_measureMarks 49 = .ok (.getfield 18, 3) := by decide +kernel
theorem dX0_measureMarks_52 : decode cX0_measureMarks 52 = .ok (.iload_n 3, 1) := by decide +kernel
theorem dX0_measureMarks_53 : decode cX0_measureMarks 53 = .ok (.iconst 1, 1) := by decide +kernel
theorem dX0_measureMarks_54 : decode cX0_measureMarks 54 = .ok (.bastore, 1) := by decide +kernel
theorem dX0_measureMarks_55 : decode cX0_measureMarks 55 = .ok (.iinc 2 1, 3) := by decide +kernel
theorem dX0_measureMarks_58 : decode cX0_measureMarks 58 = .ok (.goto (-43), 3) := by decide +kernel
theorem dX0_measureMarks_61 : decode cX0_measureMarks 61 = .ok (.iinc 1 1, 3) := by decide +kernel
theorem dX0_measureMarks_64 : decode cX0_measureMarks 64 = .ok (.goto (-62), 3) := by decide +kernel
theorem dX0_measureMarks_67 : decode cX0_measureMarks 67 = .ok (.return_, 1) := by decide +kernel
set_option maxRecDepth 20000 in
theorem ggX0_weightInto_X5_foldLimit : GoodIn wsX0_weightInto wsX5_foldLimit := goodIn_r _ [5, 6, 7, 8, 4, 9, 10, 11, 12, 13, 14, 66, 67, 68, 69] (by decide +kernel) (by decide +kernel)
set_option maxRecDepth 20000 in
theorem gX0_weightInto_X5_foldLimit : GoodIn wsX0_weightInto (wsV RX0 22 RX5 yX5_foldLimit wsX5_foldLimit) := goodIn_app (goodIn_of _ (by decide +kernel)) ggX0_weightInto_X5_foldLimit
set_option maxRecDepth 20000 in
theorem ggX0_weightInto_X5_isFold : GoodIn wsX0_weightInto wsX5_isFold := goodIn_r _ [18, 19, 20, 21, 2, 3, 4, 5, 6, 7, 8, 9, 10, 11, 12, 13, 14, 66, 67, 68, 69] (by decide +kernel) (by decide +kernel)
set_option maxRecDepth 20000 in
theorem gX0_weightInto_X5_isFold : GoodIn wsX0_weightInto (wsV RX0 28 RX5 yX5_isFold wsX5_isFold) := goodIn_app (goodIn_of _ (by decide +kernel)) ggX0_weightInto_X5_isFold
set_option maxRecDepth 20000 in
theorem ggX0_weightInto_X0_goesInto : GoodIn wsX0_weightInto wsX0_goesInto := goodIn_r _ [26, 27, 28, 29, 30, 31, 32, 33, 34, 35, 36, 37, 38, 13, 39, 40, 41, 42, 43, 44, 12, 14, 45, 46, 47, 48, 49, 50, 51, 70, 71, 66, 67, 68, 69, 72, 73, 74, 75] (by decide +kernel) (by decide +kernel)
set_option maxRecDepth 20000 in
theorem gX0_weightInto_X0_goesInto : GoodIn wsX0_weightInto (wsV RX0 52 RX0 yX0_goesInto wsX0_goesInto) := goodIn_app (goodIn_of _ (by decide +kernel)) ggX0_weightInto_X0_goesInto
set_option maxRecDepth 20000 in
theorem ggX0_weightInto_J6_bitCount_0f7a4 : GoodIn wsX0_weightInto wsJ6_bitCount_0f7a4 := goodIn_r _ [55, 56, 57, 58] (by decide +kernel) (by decide +kernel)
set_option maxRecDepth 20000 in
theorem gX0_weightInto_J6_bitCount_0f7a4 : GoodIn wsX0_weightInto (va_wsS RX0 60 yJ6_bitCount_0f7a4 wsJ6_bitCount_0f7a4) := goodIn_app (goodIn_of _ (by decide +kernel)) ggX0_weightInto_J6_bitCount_0f7a4
set_option maxRecDepth 20000 in
theorem ggX0_weightInto_X7_power : GoodIn wsX0_weightInto wsX7_power := goodIn_r _ [60] (by decide +kernel) (by decide +kernel)
set_option maxRecDepth 20000 in
theorem gX0_weightInto_X7_power_n88 : GoodIn wsX0_weightInto (wsX7_power) := ggX0_weightInto_X7_power
set_option maxRecDepth 20000 in
theorem ggX0_weightInto_X5_freeJoints : GoodIn wsX0_weightInto wsX5_freeJoints := goodIn_r _ [64, 20, 6, 7, 8, 4, 9, 10, 11, 12, 13, 14, 65, 53, 54, 55, 56, 57, 58, 66, 67, 68, 69] (by decide +kernel) (by decide +kernel)
set_option maxRecDepth 20000 in
theorem gX0_weightInto_X5_freeJoints : GoodIn wsX0_weightInto (wsV RX0 91 RX5 yX5_freeJoints wsX5_freeJoints) := goodIn_app (goodIn_of _ (by decide +kernel)) ggX0_weightInto_X5_freeJoints
theorem dX0_weightInto_0 : decode cX0_weightInto 0 = .ok (.iconst 0, 1) := by decide +kernel
theorem dX0_weightInto_1 : decode cX0_weightInto 1 = .ok (.istore 4, 2) := by decide +kernel
theorem dX0_weightInto_3 : decode cX0_weightInto 3 = .ok (.iconst 0, 1) := by decide +kernel
theorem dX0_weightInto_4 : decode cX0_weightInto 4 = .ok (.istore 5, 2) := by decide +kernel
theorem dX0_weightInto_6 : decode cX0_weightInto 6 = .ok (.iload 5, 2) := by decide +kernel
theorem dX0_weightInto_8 : decode cX0_weightInto 8 = .ok (.aload_n 1, 1) := by decide +kernel
theorem dX0_weightInto_9 : decode cX0_weightInto 9 = .ok (.invokevirtual 22, 3) := by decide +kernel
theorem dX0_weightInto_12 : decode cX0_weightInto 12 = .ok (.if_icmp .ge 69, 3) := by decide +kernel
theorem dX0_weightInto_15 : decode cX0_weightInto 15 = .ok (.aload_n 1, 1) := by decide +kernel
theorem dX0_weightInto_16 : decode cX0_weightInto 16 = .ok (.iload 5, 2) := by decide +kernel
theorem dX0_weightInto_18 : decode cX0_weightInto 18 = .ok (.invokevirtual 28, 3) := by decide +kernel
theorem dX0_weightInto_21 : decode cX0_weightInto 21 = .ok (.ifCond .eq 54, 3) := by decide +kernel
theorem dX0_weightInto_24 : decode cX0_weightInto 24 = .ok (.aload_n 0, 1) := by decide +kernel
theorem dX0_weightInto_25 : decode cX0_weightInto 25 = .ok (.aload_n 1, 1) := by decide +kernel
theorem dX0_weightInto_26 : decode cX0_weightInto 26 = .ok (.iload 5, 2) := by decide +kernel
theorem dX0_weightInto_28 : decode cX0_weightInto 28 = .ok (.iload_n 3, 1) := by decide +kernel
theorem dX0_weightInto_29 : decode cX0_weightInto 29 = .ok (.invokevirtual 52, 3) := by decide +kernel
theorem dX0_weightInto_32 : decode cX0_weightInto 32 = .ok (.ifCond .eq 43, 3) := by decide +kernel
theorem dX0_weightInto_35 : decode cX0_weightInto 35 = .ok (.iload 5, 2) := by decide +kernel
theorem dX0_weightInto_37 : decode cX0_weightInto 37 = .ok (.aload_n 1, 1) := by decide +kernel
theorem dX0_weightInto_38 : decode cX0_weightInto 38 = .ok (.getfield 85, 3) := by decide +kernel
theorem dX0_weightInto_41 : decode cX0_weightInto 41 = .ok (.iconst (-1), 1) := by decide +kernel
theorem dX0_weightInto_42 : decode cX0_weightInto 42 = .ok (.ixor, 1) := by decide +kernel
theorem dX0_weightInto_43 : decode cX0_weightInto 43 = .ok (.iand, 1) := by decide +kernel
theorem dX0_weightInto_44 : decode cX0_weightInto 44 = .ok (.invokestatic 60, 3) := by decide +kernel
theorem dX0_weightInto_47 : decode cX0_weightInto 47 = .ok (.istore 6, 2) := by decide +kernel
theorem dX0_weightInto_49 : decode cX0_weightInto 49 = .ok (.iload 4, 2) := by decide +kernel
theorem dX0_weightInto_51 : decode cX0_weightInto 51 = .ok (.iload_n 2, 1) := by decide +kernel
theorem dX0_weightInto_52 : decode cX0_weightInto 52 = .ok (.iload 6, 2) := by decide +kernel
theorem dX0_weightInto_54 : decode cX0_weightInto 54 = .ok (.invokestatic 88, 3) := by decide +kernel
theorem dX0_weightInto_57 : decode cX0_weightInto 57 = .ok (.bipush 10, 2) := by decide +kernel
theorem dX0_weightInto_59 : decode cX0_weightInto 59 = .ok (.iload_n 2, 1) := by decide +kernel
theorem dX0_weightInto_60 : decode cX0_weightInto 60 = .ok (.isub, 1) := by decide +kernel
theorem dX0_weightInto_61 : decode cX0_weightInto 61 = .ok (.aload_n 1, 1) := by decide +kernel
theorem dX0_weightInto_62 : decode cX0_weightInto 62 = .ok (.invokevirtual 91, 3) := by decide +kernel
theorem dX0_weightInto_65 : decode cX0_weightInto 65 = .ok (.iload 6, 2) := by decide +kernel
theorem dX0_weightInto_67 : decode cX0_weightInto 67 = .ok (.isub, 1) := by decide +kernel
theorem dX0_weightInto_68 : decode cX0_weightInto 68 = .ok (.invokestatic 88, 3) := by decide +kernel
theorem dX0_weightInto_71 : decode cX0_weightInto 71 = .ok (.imul, 1) := by decide +kernel
theorem dX0_weightInto_72 : decode cX0_weightInto 72 = .ok (.iadd, 1) := by decide +kernel
theorem dX0_weightInto_73 : decode cX0_weightInto 73 = .ok (.istore 4, 2) := by decide +kernel
theorem dX0_weightInto_75 : decode cX0_weightInto 75 = .ok (.iinc 5 1, 3) := by decide +kernel
theorem dX0_weightInto_78 : decode cX0_weightInto 78 = .ok (.goto (-72), 3) := by decide +kernel
theorem dX0_weightInto_81 : decode cX0_weightInto 81 = .ok (.iload 4, 2) := by decide +kernel
theorem dX0_weightInto_83 : decode cX0_weightInto 83 = .ok (.ireturn, 1) := by decide +kernel
set_option maxRecDepth 20000 in
theorem ggX1_init_X5_init : GoodIn wsX1_init wsX5_init := goodIn_r _ [9, 10, 2, 3, 11, 12, 16, 17, 18, 19] (by decide +kernel) (by decide +kernel)
set_option maxRecDepth 20000 in
theorem gX1_init_X5_init_n17 : GoodIn wsX1_init (wsX5_init) := ggX1_init_X5_init
theorem dX1_init_0 : decode cX1_init 0 = .ok (.aload_n 0, 1) := by decide +kernel
theorem dX1_init_1 : decode cX1_init 1 = .ok (.invokespecial 3, 3) := by decide +kernel
theorem dX1_init_4 : decode cX1_init 4 = .ok (.aload_n 0, 1) := by decide +kernel
theorem dX1_init_5 : decode cX1_init 5 = .ok (.bipush 10, 2) := by decide +kernel
theorem dX1_init_7 : decode cX1_init 7 = .ok (.anewarray 9, 3) := by decide +kernel
theorem dX1_init_10 : decode cX1_init 10 = .ok (.putfield 11, 3) := by decide +kernel
theorem dX1_init_13 : decode cX1_init 13 = .ok (.iconst 0, 1) := by decide +kernel
theorem dX1_init_14 : decode cX1_init 14 = .ok (.istore_n 1, 1) := by decide +kernel
theorem dX1_init_15 : decode cX1_init 15 = .ok (.iload_n 1, 1) := by decide +kernel
theorem dX1_init_16 : decode cX1_init 16 = .ok (.bipush 10, 2) := by decide +kernel
theorem dX1_init_18 : decode cX1_init 18 = .ok (.if_icmp .ge 22, 3) := by decide +kernel
theorem dX1_init_21 : decode cX1_init 21 = .ok (.aload_n 0, 1) := by decide +kernel
theorem dX1_init_22 : decode cX1_init 22 = .ok (.getfield 11, 3) := by decide +kernel
theorem dX1_init_25 : decode cX1_init 25 = .ok (.iload_n 1, 1) := by decide +kernel
theorem dX1_init_26 : decode cX1_init 26 = .ok (.new 9, 3) := by decide +kernel
theorem dX1_init_29 : decode cX1_init 29 = .ok (.dup, 1) := by decide +kernel
theorem dX1_init_30 : decode cX1_init 30 = .ok (.invokespecial 17, 3) := by decide +kernel
theorem dX1_init_33 : decode cX1_init 33 = .ok (.aastore, 1) := by decide +kernel
theorem dX1_init_34 : decode cX1_init 34 = .ok (.iinc 1 1, 3) := by decide +kernel
theorem dX1_init_37 : decode cX1_init 37 = .ok (.goto (-22), 3) := by decide +kernel
theorem dX1_init_40 : decode cX1_init 40 = .ok (.return_, 1) := by decide +kernel
theorem dX1_loseAll_0 : decode cX1_loseAll 0 = .ok (.aload_n 0, 1) := by decide +kernel
theorem dX1_loseAll_1 : decode cX1_loseAll 1 = .ok (.iconst 0, 1) := by decide +kernel
theorem dX1_loseAll_2 : decode cX1_loseAll 2 = .ok (.putfield 18, 3) := by decide +kernel
theorem dX1_loseAll_5 : decode cX1_loseAll 5 = .ok (.return_, 1) := by decide +kernel
set_option maxRecDepth 20000 in
theorem ggX1_remember_X5_copyFrom : GoodIn wsX1_remember wsX5_copyFrom := goodIn_r _ [12, 13, 14, 15, 16, 20, 21, 22, 23] (by decide +kernel) (by decide +kernel)
set_option maxRecDepth 20000 in
theorem gX1_remember_X5_copyFrom : GoodIn wsX1_remember (wsV RX1 25 RX5 yX5_copyFrom wsX5_copyFrom) := goodIn_app (goodIn_of _ (by decide +kernel)) ggX1_remember_X5_copyFrom
theorem dX1_remember_0 : decode cX1_remember 0 = .ok (.aload_n 0, 1) := by decide +kernel
theorem dX1_remember_1 : decode cX1_remember 1 = .ok (.getfield 11, 3) := by decide +kernel
theorem dX1_remember_4 : decode cX1_remember 4 = .ok (.aload_n 0, 1) := by decide +kernel
theorem dX1_remember_5 : decode cX1_remember 5 = .ok (.getfield 22, 3) := by decide +kernel
theorem dX1_remember_8 : decode cX1_remember 8 = .ok (.aaload, 1) := by decide +kernel
theorem dX1_remember_9 : decode cX1_remember 9 = .ok (.aload_n 1, 1) := by decide +kernel
theorem dX1_remember_10 : decode cX1_remember 10 = .ok (.invokevirtual 25, 3) := by decide +kernel
theorem dX1_remember_13 : decode cX1_remember 13 = .ok (.aload_n 0, 1) := by decide +kernel
theorem dX1_remember_14 : decode cX1_remember 14 = .ok (.aload_n 0, 1) := by decide +kernel
theorem dX1_remember_15 : decode cX1_remember 15 = .ok (.getfield 22, 3) := by decide +kernel
theorem dX1_remember_18 : decode cX1_remember 18 = .ok (.iconst 1, 1) := by decide +kernel
theorem dX1_remember_19 : decode cX1_remember 19 = .ok (.iadd, 1) := by decide +kernel
theorem dX1_remember_20 : decode cX1_remember 20 = .ok (.bipush 10, 2) := by decide +kernel
theorem dX1_remember_22 : decode cX1_remember 22 = .ok (.irem, 1) := by decide +kernel
theorem dX1_remember_23 : decode cX1_remember 23 = .ok (.putfield 22, 3) := by decide +kernel
theorem dX1_remember_26 : decode cX1_remember 26 = .ok (.aload_n 0, 1) := by decide +kernel
theorem dX1_remember_27 : decode cX1_remember 27 = .ok (.aload_n 0, 1) := by decide +kernel
theorem dX1_remember_28 : decode cX1_remember 28 = .ok (.getfield 18, 3) := by decide +kernel
theorem dX1_remember_31 : decode cX1_remember 31 = .ok (.iconst 1, 1) := by decide +kernel
theorem dX1_remember_32 : decode cX1_remember 32 = .ok (.iadd, 1) := by decide +kernel
theorem dX1_remember_33 : decode cX1_remember 33 = .ok (.bipush 10, 2) := by decide +kernel
theorem dX1_remember_35 : decode cX1_remember 35 = .ok (.invokestatic 29, 3) := by decide +kernel
theorem dX1_remember_38 : decode cX1_remember 38 = .ok (.putfield 18, 3) := by decide +kernel
theorem dX1_remember_41 : decode cX1_remember 41 = .ok (.return_, 1) := by decide +kernel
set_option maxRecDepth 20000 in
theorem ggX1_restore_X5_copyFrom : GoodIn wsX1_restore wsX5_copyFrom := goodIn_r _ [8, 9, 10, 11, 12, 16, 17, 18, 19] (by decide +kernel) (by decide +kernel)
set_option maxRecDepth 20000 in
theorem gX1_restore_X5_copyFrom : GoodIn wsX1_restore (wsV RX1 25 RX5 yX5_copyFrom wsX5_copyFrom) := goodIn_app (goodIn_of _ (by decide +kernel)) ggX1_restore_X5_copyFrom
theorem dX1_restore_0 : decode cX1_restore 0 = .ok (.aload_n 0, 1) := by decide +kernel
theorem dX1_restore_1 : decode cX1_restore 1 = .ok (.getfield 18, 3) := by decide +kernel
theorem dX1_restore_4 : decode cX1_restore 4 = .ok (.ifCond .le 42, 3) := by decide +kernel
theorem dX1_restore_7 : decode cX1_restore 7 = .ok (.aload_n 0, 1) := by decide +kernel
theorem dX1_restore_8 : decode cX1_restore 8 = .ok (.aload_n 0, 1) := by decide +kernel
theorem dX1_restore_9 : decode cX1_restore 9 = .ok (.getfield 22, 3) := by decide +kernel
theorem dX1_restore_12 : decode cX1_restore 12 = .ok (.bipush 10, 2) := by decide +kernel
theorem dX1_restore_14 : decode cX1_restore 14 = .ok (.iadd, 1) := by decide +kernel
theorem dX1_restore_15 : decode cX1_restore 15 = .ok (.iconst 1, 1) := by decide +kernel
theorem dX1_restore_16 : decode cX1_restore 16 = .ok (.isub, 1) := by decide +kernel
theorem dX1_restore_17 : decode cX1_restore 17 = .ok (.bipush 10, 2) := by decide +kernel
theorem dX1_restore_19 : decode cX1_restore 19 = .ok (.irem, 1) := by decide +kernel
theorem dX1_restore_20 : decode cX1_restore 20 = .ok (.putfield 22, 3) := by decide +kernel
theorem dX1_restore_23 : decode cX1_restore 23 = .ok (.aload_n 0, 1) := by decide +kernel
theorem dX1_restore_24 : decode cX1_restore 24 = .ok (.dup, 1) := by decide +kernel
theorem dX1_restore_25 : decode cX1_restore 25 = .ok (.getfield 18, 3) := by decide +kernel
theorem dX1_restore_28 : decode cX1_restore 28 = .ok (.iconst 1, 1) := by decide +kernel
theorem dX1_restore_29 : decode cX1_restore 29 = .ok (.isub, 1) := by decide +kernel
theorem dX1_restore_30 : decode cX1_restore 30 = .ok (.putfield 18, 3) := by decide +kernel
theorem dX1_restore_33 : decode cX1_restore 33 = .ok (.aload_n 1, 1) := by decide +kernel
theorem dX1_restore_34 : decode cX1_restore 34 = .ok (.aload_n 0, 1) := by decide +kernel
theorem dX1_restore_35 : decode cX1_restore 35 = .ok (.getfield 11, 3) := by decide +kernel
theorem dX1_restore_38 : decode cX1_restore 38 = .ok (.aload_n 0, 1) := by decide +kernel
theorem dX1_restore_39 : decode cX1_restore 39 = .ok (.getfield 22, 3) := by decide +kernel
theorem dX1_restore_42 : decode cX1_restore 42 = .ok (.aaload, 1) := by decide +kernel
theorem dX1_restore_43 : decode cX1_restore 43 = .ok (.invokevirtual 25, 3) := by decide +kernel
theorem dX1_restore_46 : decode cX1_restore 46 = .ok (.return_, 1) := by decide +kernel
theorem dX2_init_0 : decode cX2_init 0 = .ok (.aload_n 0, 1) := by decide +kernel
theorem dX2_init_1 : decode cX2_init 1 = .ok (.invokespecial 3, 3) := by decide +kernel
theorem dX2_init_4 : decode cX2_init 4 = .ok (.aload_n 0, 1) := by decide +kernel
theorem dX2_init_5 : decode cX2_init 5 = .ok (.bipush 10, 2) := by decide +kernel
theorem dX2_init_7 : decode cX2_init 7 = .ok (.newarray .int, 2) := by decide +kernel
theorem dX2_init_9 : decode cX2_init 9 = .ok (.putfield 9, 3) := by decide +kernel
theorem dX2_init_12 : decode cX2_init 12 = .ok (.return_, 1) := by decide +kernel
set_option maxRecDepth 20000 in
theorem ggX2_layOut_X2_layOutFiled : GoodIn wsX2_layOut wsX2_layOutFiled := goodIn_r _ [5, 6, 7, 8, 9, 10, 11, 12, 13, 14, 15, 16, 17, 18, 19, 20, 21, 22, 23, 24, 25, 26, 27] (by decide +kernel) (by decide +kernel)
set_option maxRecDepth 20000 in
theorem gX2_layOut_X2_layOutFiled : GoodIn wsX2_layOut (wsV RX2 15 RX2 yX2_layOutFiled wsX2_layOutFiled) := goodIn_app (goodIn_of _ (by decide +kernel)) ggX2_layOut_X2_layOutFiled
theorem dX2_layOut_0 : decode cX2_layOut 0 = .ok (.aload_n 0, 1) := by decide +kernel
theorem dX2_layOut_1 : decode cX2_layOut 1 = .ok (.aload_n 1, 1) := by decide +kernel
theorem dX2_layOut_2 : decode cX2_layOut 2 = .ok (.iload_n 2, 1) := by decide +kernel
theorem dX2_layOut_3 : decode cX2_layOut 3 = .ok (.bipush (-9), 2) := by decide +kernel
theorem dX2_layOut_5 : decode cX2_layOut 5 = .ok (.iconst 0, 1) := by decide +kernel
theorem dX2_layOut_6 : decode cX2_layOut 6 = .ok (.invokevirtual 15, 3) := by decide +kernel
theorem dX2_layOut_9 : decode cX2_layOut 9 = .ok (.return_, 1) := by decide +kernel
set_option maxRecDepth 20000 in
theorem ggX2_layOutFiled_X7_hasBit : GoodIn wsX2_layOutFiled wsX7_hasBit := goodIn_r _ [14] (by decide +kernel) (by decide +kernel)
set_option maxRecDepth 20000 in
theorem gX2_layOutFiled_X7_hasBit_n44 : GoodIn wsX2_layOutFiled (wsX7_hasBit) := ggX2_layOutFiled_X7_hasBit
theorem dX2_layOutFiled_0 : decode cX2_layOutFiled 0 = .ok (.aload_n 0, 1) := by decide +kernel
theorem dX2_layOutFiled_1 : decode cX2_layOutFiled 1 = .ok (.aload_n 1, 1) := by decide +kernel
theorem dX2_layOutFiled_2 : decode cX2_layOutFiled 2 = .ok (.getfield 19, 3) := by decide +kernel
theorem dX2_layOutFiled_5 : decode cX2_layOutFiled 5 = .ok (.bipush 9, 2) := by decide +kernel
theorem dX2_layOutFiled_7 : decode cX2_layOutFiled 7 = .ok (.invokestatic 25, 3) := by decide +kernel
theorem dX2_layOutFiled_10 : decode cX2_layOutFiled 10 = .ok (.putfield 31, 3) := by decide +kernel
theorem dX2_layOutFiled_13 : decode cX2_layOutFiled 13 = .ok (.aload_n 0, 1) := by decide +kernel
theorem dX2_layOutFiled_14 : decode cX2_layOutFiled 14 = .ok (.iconst 0, 1) := by decide +kernel
theorem dX2_layOutFiled_15 : decode cX2_layOutFiled 15 = .ok (.putfield 32, 3) := by decide +kernel
theorem dX2_layOutFiled_18 : decode cX2_layOutFiled 18 = .ok (.aload_n 0, 1) := by decide +kernel
theorem dX2_layOutFiled_19 : decode cX2_layOutFiled 19 = .ok (.iconst 0, 1) := by decide +kernel
theorem dX2_layOutFiled_20 : decode cX2_layOutFiled 20 = .ok (.putfield 35, 3) := by decide +kernel
theorem dX2_layOutFiled_23 : decode cX2_layOutFiled 23 = .ok (.iconst 0, 1) := by decide +kernel
theorem dX2_layOutFiled_24 : decode cX2_layOutFiled 24 = .ok (.istore 5, 2) := by decide +kernel
theorem dX2_layOutFiled_26 : decode cX2_layOutFiled 26 = .ok (.iconst 1, 1) := by decide +kernel
theorem dX2_layOutFiled_27 : decode cX2_layOutFiled 27 = .ok (.istore 6, 2) := by decide +kernel
theorem dX2_layOutFiled_29 : decode cX2_layOutFiled 29 = .ok (.iconst 0, 1) := by decide +kernel
theorem dX2_layOutFiled_30 : decode cX2_layOutFiled 30 = .ok (.istore 7, 2) := by decide +kernel
theorem dX2_layOutFiled_32 : decode cX2_layOutFiled 32 = .ok (.iload 7, 2) := by decide +kernel
theorem dX2_layOutFiled_34 : decode cX2_layOutFiled 34 = .ok (.aload_n 0, 1) := by decide +kernel
theorem dX2_layOutFiled_35 : decode cX2_layOutFiled 35 = .ok (.getfield 31, 3) := by decide +kernel
theorem dX2_layOutFiled_38 : decode cX2_layOutFiled 38 = .ok (.if_icmp .ge 103, 3) := by decide +kernel
theorem dX2_layOutFiled_41 : decode cX2_layOutFiled 41 = .ok (.iload 7, 2) := by decide +kernel
theorem dX2_layOutFiled_43 : decode cX2_layOutFiled 43 = .ok (.iload_n 3, 1) := by decide +kernel
theorem dX2_layOutFiled_44 : decode cX2_layOutFiled 44 = .ok (.if_icmp .ne 16, 3) := by decide +kernel
theorem dX2_layOutFiled_47 : decode cX2_layOutFiled 47 = .ok (.aload_n 1, 1) := by decide +kernel
theorem dX2_layOutFiled_48 : decode cX2_layOutFiled 48 = .ok (.getfield 38, 3) := by decide +kernel
theorem dX2_layOutFiled_51 : decode cX2_layOutFiled 51 = .ok (.iload 7, 2) := by decide +kernel
theorem dX2_layOutFiled_53 : decode cX2_layOutFiled 53 = .ok (.iaload, 1) := by decide +kernel
theorem dX2_layOutFiled_54 : decode cX2_layOutFiled 54 = .ok (.iload 4, 2) := by decide +kernel
theorem dX2_layOutFiled_56 : decode cX2_layOutFiled 56 = .ok (.isub, 1) := by decide +kernel
theorem dX2_layOutFiled_57 : decode cX2_layOutFiled 57 = .ok (.goto 10, 3) := by decide +kernel
theorem dX2_layOutFiled_60 : decode cX2_layOutFiled 60 = .ok (.aload_n 1, 1) := by decide +kernel
theorem dX2_layOutFiled_61 : decode cX2_layOutFiled 61 = .ok (.getfield 38, 3) := by decide +kernel
theorem dX2_layOutFiled_64 : decode cX2_layOutFiled 64 = .ok (.iload 7, 2) := by decide +kernel
theorem dX2_layOutFiled_66 : decode cX2_layOutFiled 66 = .ok (.iaload, 1) := by decide +kernel
theorem dX2_layOutFiled_67 : decode cX2_layOutFiled 67 = .ok (.istore 8, 2) := by decide +kernel
theorem dX2_layOutFiled_69 : decode cX2_layOutFiled 69 = .ok (.iload 5, 2) := by decide +kernel
theorem dX2_layOutFiled_71 : decode cX2_layOutFiled 71 = .ok (.iload 6, 2) := by decide +kernel
theorem dX2_layOutFiled_73 : decode cX2_layOutFiled 73 = .ok (.iload 8, 2) := by decide +kernel
theorem dX2_layOutFiled_75 : decode cX2_layOutFiled 75 = .ok (.imul, 1) := by decide +kernel
theorem dX2_layOutFiled_76 : decode cX2_layOutFiled 76 = .ok (.iadd, 1) := by decide +kernel
theorem dX2_layOutFiled_77 : decode cX2_layOutFiled 77 = .ok (.istore 5, 2) := by decide +kernel
theorem dX2_layOutFiled_79 : decode cX2_layOutFiled 79 = .ok (.aload_n 0, 1) := by decide +kernel
theorem dX2_layOutFiled_80 : decode cX2_layOutFiled 80 = .ok (.getfield 9, 3) := by decide +kernel
theorem dX2_layOutFiled_83 : decode cX2_layOutFiled 83 = .ok (.iload 7, 2) := by decide +kernel
theorem dX2_layOutFiled_85 : decode cX2_layOutFiled 85 = .ok (.iconst 1, 1) := by decide +kernel
theorem dX2_layOutFiled_86 : decode cX2_layOutFiled 86 = .ok (.iadd, 1) := by decide +kernel
theorem dX2_layOutFiled_87 : decode cX2_layOutFiled 87 = .ok (.iload 5, 2) := by decide +kernel
theorem dX2_layOutFiled_89 : decode cX2_layOutFiled 89 = .ok (.iastore, 1) := by decide +kernel
theorem dX2_layOutFiled_90 : decode cX2_layOutFiled 90 = .ok (.aload_n 0, 1) := by decide +kernel
theorem dX2_layOutFiled_91 : decode cX2_layOutFiled 91 = .ok (.aload_n 0, 1) := by decide +kernel
theorem dX2_layOutFiled_92 : decode cX2_layOutFiled 92 = .ok (.getfield 32, 3) := by decide +kernel
theorem dX2_layOutFiled_95 : decode cX2_layOutFiled 95 = .ok (.iload 5, 2) := by decide +kernel
theorem dX2_layOutFiled_97 : decode cX2_layOutFiled 97 = .ok (.invokestatic 25, 3) := by decide +kernel
theorem dX2_layOutFiled_100 : decode cX2_layOutFiled 100 = .ok (.putfield 32, 3) := by decide +kernel
theorem dX2_layOutFiled_103 : decode cX2_layOutFiled 103 = .ok (.aload_n 0, 1) := by decide +kernel
theorem dX2_layOutFiled_104 : decode cX2_layOutFiled 104 = .ok (.aload_n 0, 1) := by decide +kernel
theorem dX2_layOutFiled_105 : decode cX2_layOutFiled 105 = .ok (.getfield 35, 3) := by decide +kernel
theorem dX2_layOutFiled_108 : decode cX2_layOutFiled 108 = .ok (.iload 5, 2) := by decide +kernel
theorem dX2_layOutFiled_110 : decode cX2_layOutFiled 110 = .ok (.invokestatic 41, 3) := by decide +kernel
theorem dX2_layOutFiled_113 : decode cX2_layOutFiled 113 = .ok (.putfield 35, 3) := by decide +kernel
theorem dX2_layOutFiled_116 : decode cX2_layOutFiled 116 = .ok (.iload_n 2, 1) := by decide +kernel
theorem dX2_layOutFiled_117 : decode cX2_layOutFiled 117 = .ok (.iload 7, 2) := by decide +kernel
theorem dX2_layOutFiled_119 : decode cX2_layOutFiled 119 = .ok (.invokestatic 44, 3) := by decide +kernel
theorem dX2_layOutFiled_122 : decode cX2_layOutFiled 122 = .ok (.ifCond .eq 9, 3) := by decide +kernel
theorem dX2_layOutFiled_125 : decode cX2_layOutFiled 125 = .ok (.iload 6, 2) := by decide +kernel
theorem dX2_layOutFiled_127 : decode cX2_layOutFiled 127 = .ok (.ineg, 1) := by decide +kernel
theorem dX2_layOutFiled_128 : decode cX2_layOutFiled 128 = .ok (.goto 5, 3) := by decide +kernel
theorem dX2_layOutFiled_131 : decode cX2_layOutFiled 131 = .ok (.iload 6, 2) := by decide +kernel
theorem dX2_layOutFiled_133 : decode cX2_layOutFiled 133 = .ok (.istore 6, 2) := by decide +kernel
theorem dX2_layOutFiled_135 : decode cX2_layOutFiled 135 = .ok (.iinc 7 1, 3) := by decide +kernel
theorem dX2_layOutFiled_138 : decode cX2_layOutFiled 138 = .ok (.goto (-106), 3) := by decide +kernel
theorem dX2_layOutFiled_141 : decode cX2_layOutFiled 141 = .ok (.return_, 1) := by decide +kernel
theorem dX2_placeOf_0 : decode cX2_placeOf 0 = .ok (.iload_n 1, 1) := by decide +kernel
theorem dX2_placeOf_1 : decode cX2_placeOf 1 = .ok (.ifCond .lt 20, 3) := by decide +kernel
theorem dX2_placeOf_4 : decode cX2_placeOf 4 = .ok (.iload_n 1, 1) := by decide +kernel
theorem dX2_placeOf_5 : decode cX2_placeOf 5 = .ok (.aload_n 0, 1) := by decide +kernel
theorem dX2_placeOf_6 : decode cX2_placeOf 6 = .ok (.getfield 31, 3) := by decide +kernel
theorem dX2_placeOf_9 : decode cX2_placeOf 9 = .ok (.if_icmp .gt 12, 3) := by decide +kernel
theorem dX2_placeOf_12 : decode cX2_placeOf 12 = .ok (.aload_n 0, 1) := by decide +kernel
theorem dX2_placeOf_13 : decode cX2_placeOf 13 = .ok (.getfield 9, 3) := by decide +kernel
theorem dX2_placeOf_16 : decode cX2_placeOf 16 = .ok (.iload_n 1, 1) := by decide +kernel
theorem dX2_placeOf_17 : decode cX2_placeOf 17 = .ok (.iaload, 1) := by decide +kernel
theorem dX2_placeOf_18 : decode cX2_placeOf 18 = .ok (.goto 4, 3) := by decide +kernel
theorem dX2_placeOf_21 : decode cX2_placeOf 21 = .ok (.iconst 0, 1) := by decide +kernel
theorem dX2_placeOf_22 : decode cX2_placeOf 22 = .ok (.ireturn, 1) := by decide +kernel
set_option maxRecDepth 20000 in
theorem ggX2_lastPlace_X2_placeOf : GoodIn wsX2_lastPlace wsX2_placeOf := goodIn_r _ [6, 1, 7, 8, 9, 10, 11] (by decide +kernel) (by decide +kernel)
set_option maxRecDepth 20000 in
theorem gX2_lastPlace_X2_placeOf : GoodIn wsX2_lastPlace (wsV RX2 48 RX2 yX2_placeOf wsX2_placeOf) := goodIn_app (goodIn_of _ (by decide +kernel)) ggX2_lastPlace_X2_placeOf
theorem dX2_lastPlace_0 : decode cX2_lastPlace 0 = .ok (.aload_n 0, 1) := by decide +kernel
theorem dX2_lastPlace_1 : decode cX2_lastPlace 1 = .ok (.aload_n 0, 1) := by decide +kernel
theorem dX2_lastPlace_2 : decode cX2_lastPlace 2 = .ok (.getfield 31, 3) := by decide +kernel
theorem dX2_lastPlace_5 : decode cX2_lastPlace 5 = .ok (.invokevirtual 48, 3) := by decide +kernel
theorem dX2_lastPlace_8 : decode cX2_lastPlace 8 = .ok (.ireturn, 1) := by decide +kernel
theorem dX2_span_0 : decode cX2_span 0 = .ok (.aload_n 0, 1) := by decide +kernel
theorem dX2_span_1 : decode cX2_span 1 = .ok (.getfield 35, 3) := by decide +kernel
theorem dX2_span_4 : decode cX2_span 4 = .ok (.aload_n 0, 1) := by decide +kernel
theorem dX2_span_5 : decode cX2_span 5 = .ok (.getfield 32, 3) := by decide +kernel
theorem dX2_span_8 : decode cX2_span 8 = .ok (.isub, 1) := by decide +kernel
theorem dX2_span_9 : decode cX2_span 9 = .ok (.ireturn, 1) := by decide +kernel
set_option maxRecDepth 20000 in
theorem ggX2_lowOf_X2_placeOf : GoodIn wsX2_lowOf wsX2_placeOf := goodIn_r _ [9, 10, 11, 12, 13, 14, 15] (by decide +kernel) (by decide +kernel)
set_option maxRecDepth 20000 in
theorem gX2_lowOf_X2_placeOf : GoodIn wsX2_lowOf (wsV RX2 48 RX2 yX2_placeOf wsX2_placeOf) := goodIn_app (goodIn_of _ (by decide +kernel)) ggX2_lowOf_X2_placeOf
theorem dX2_lowOf_0 : decode cX2_lowOf 0 = .ok (.aload_n 0, 1) := by decide +kernel
theorem dX2_lowOf_1 : decode cX2_lowOf 1 = .ok (.iload_n 1, 1) := by decide +kernel
theorem dX2_lowOf_2 : decode cX2_lowOf 2 = .ok (.invokevirtual 48, 3) := by decide +kernel
theorem dX2_lowOf_5 : decode cX2_lowOf 5 = .ok (.aload_n 0, 1) := by decide +kernel
theorem dX2_lowOf_6 : decode cX2_lowOf 6 = .ok (.iload_n 1, 1) := by decide +kernel
theorem dX2_lowOf_7 : decode cX2_lowOf 7 = .ok (.iconst 1, 1) := by decide +kernel
theorem dX2_lowOf_8 : decode cX2_lowOf 8 = .ok (.iadd, 1) := by decide +kernel
theorem dX2_lowOf_9 : decode cX2_lowOf 9 = .ok (.invokevirtual 48, 3) := by decide +kernel
theorem dX2_lowOf_12 : decode cX2_lowOf 12 = .ok (.invokestatic 25, 3) := by decide +kernel
theorem dX2_lowOf_15 : decode cX2_lowOf 15 = .ok (.ireturn, 1) := by decide +kernel
set_option maxRecDepth 20000 in
theorem ggX2_highOf_X2_placeOf : GoodIn wsX2_highOf wsX2_placeOf := goodIn_r _ [9, 10, 11, 12, 13, 14, 15] (by decide +kernel) (by decide +kernel)
set_option maxRecDepth 20000 in
theorem gX2_highOf_X2_placeOf : GoodIn wsX2_highOf (wsV RX2 48 RX2 yX2_placeOf wsX2_placeOf) := goodIn_app (goodIn_of _ (by decide +kernel)) ggX2_highOf_X2_placeOf
theorem dX2_highOf_0 : decode cX2_highOf 0 = .ok (.aload_n 0, 1) := by decide +kernel
theorem dX2_highOf_1 : decode cX2_highOf 1 = .ok (.iload_n 1, 1) := by decide +kernel
theorem dX2_highOf_2 : decode cX2_highOf 2 = .ok (.invokevirtual 48, 3) := by decide +kernel
theorem dX2_highOf_5 : decode cX2_highOf 5 = .ok (.aload_n 0, 1) := by decide +kernel
theorem dX2_highOf_6 : decode cX2_highOf 6 = .ok (.iload_n 1, 1) := by decide +kernel
theorem dX2_highOf_7 : decode cX2_highOf 7 = .ok (.iconst 1, 1) := by decide +kernel
theorem dX2_highOf_8 : decode cX2_highOf 8 = .ok (.iadd, 1) := by decide +kernel
theorem dX2_highOf_9 : decode cX2_highOf 9 = .ok (.invokevirtual 48, 3) := by decide +kernel
theorem dX2_highOf_12 : decode cX2_highOf 12 = .ok (.invokestatic 41, 3) := by decide +kernel
theorem dX2_highOf_15 : decode cX2_highOf 15 = .ok (.ireturn, 1) := by decide +kernel
set_option maxRecDepth 20000 in
theorem ggX2_stack_X2_lowOf : GoodIn wsX2_stack wsX2_lowOf := goodIn_r _ [10, 11, 12, 4, 13, 14, 15, 16, 9, 17, 1, 18, 27, 28, 29, 30] (by decide +kernel) (by decide +kernel)
set_option maxRecDepth 20000 in
theorem gX2_stack_X2_lowOf : GoodIn wsX2_stack (wsV RX2 52 RX2 yX2_lowOf wsX2_lowOf) := goodIn_app (goodIn_of _ (by decide +kernel)) ggX2_stack_X2_lowOf
set_option maxRecDepth 20000 in
theorem ggX2_stack_X2_linksBehind : GoodIn wsX2_stack wsX2_linksBehind := goodIn_r _ [22, 1, 6, 7, 8, 9, 10, 11, 12, 4, 13, 14, 15, 16, 17, 18, 23, 24, 25, 26, 2, 3, 5, 27, 28, 29, 30] (by decide +kernel) (by decide +kernel)
set_option maxRecDepth 20000 in
theorem gX2_stack_X2_linksBehind : GoodIn wsX2_stack (wsV RX2 55 RX2 yX2_linksBehind wsX2_linksBehind) := goodIn_app (goodIn_of _ (by decide +kernel)) ggX2_stack_X2_linksBehind
theorem dX2_stack_0 : decode cX2_stack 0 = .ok (.iconst 0, 1) := by decide +kernel
theorem dX2_stack_1 : decode cX2_stack 1 = .ok (.istore_n 1, 1) := by decide +kernel
theorem dX2_stack_2 : decode cX2_stack 2 = .ok (.iconst 0, 1) := by decide +kernel
theorem dX2_stack_3 : decode cX2_stack 3 = .ok (.istore_n 2, 1) := by decide +kernel
theorem dX2_stack_4 : decode cX2_stack 4 = .ok (.iload_n 2, 1) := by decide +kernel
theorem dX2_stack_5 : decode cX2_stack 5 = .ok (.aload_n 0, 1) := by decide +kernel
theorem dX2_stack_6 : decode cX2_stack 6 = .ok (.getfield 31, 3) := by decide +kernel
theorem dX2_stack_9 : decode cX2_stack 9 = .ok (.if_icmp .ge 23, 3) := by decide +kernel
theorem dX2_stack_12 : decode cX2_stack 12 = .ok (.iload_n 1, 1) := by decide +kernel
theorem dX2_stack_13 : decode cX2_stack 13 = .ok (.aload_n 0, 1) := by decide +kernel
theorem dX2_stack_14 : decode cX2_stack 14 = .ok (.aload_n 0, 1) := by decide +kernel
theorem dX2_stack_15 : decode cX2_stack 15 = .ok (.iload_n 2, 1) := by decide +kernel
theorem dX2_stack_16 : decode cX2_stack 16 = .ok (.invokevirtual 52, 3) := by decide +kernel
theorem dX2_stack_19 : decode cX2_stack 19 = .ok (.invokevirtual 55, 3) := by decide +kernel
theorem dX2_stack_22 : decode cX2_stack 22 = .ok (.invokestatic 41, 3) := by decide +kernel
theorem dX2_stack_25 : decode cX2_stack 25 = .ok (.istore_n 1, 1) := by decide +kernel
theorem dX2_stack_26 : decode cX2_stack 26 = .ok (.iinc 2 1, 3) := by decide +kernel
theorem dX2_stack_29 : decode cX2_stack 29 = .ok (.goto (-25), 3) := by decide +kernel
theorem dX2_stack_32 : decode cX2_stack 32 = .ok (.iload_n 1, 1) := by decide +kernel
theorem dX2_stack_33 : decode cX2_stack 33 = .ok (.ireturn, 1) := by decide +kernel
set_option maxRecDepth 20000 in
theorem ggX2_linksBehind_X2_lowOf : GoodIn wsX2_linksBehind wsX2_lowOf := goodIn_r _ [6, 7, 8, 9, 10, 11, 12, 13, 5, 14, 1, 15, 23, 24, 25, 26] (by decide +kernel) (by decide +kernel)
set_option maxRecDepth 20000 in
theorem gX2_linksBehind_X2_lowOf : GoodIn wsX2_linksBehind (wsV RX2 52 RX2 yX2_lowOf wsX2_lowOf) := goodIn_app (goodIn_of _ (by decide +kernel)) ggX2_linksBehind_X2_lowOf
set_option maxRecDepth 20000 in
theorem ggX2_linksBehind_X2_highOf : GoodIn wsX2_linksBehind wsX2_highOf := goodIn_r _ [19, 20, 21, 9, 22, 11, 12, 13, 5, 14, 1, 15, 23, 24, 25, 26] (by decide +kernel) (by decide +kernel)
set_option maxRecDepth 20000 in
theorem gX2_linksBehind_X2_highOf : GoodIn wsX2_linksBehind (wsV RX2 58 RX2 yX2_highOf wsX2_highOf) := goodIn_app (goodIn_of _ (by decide +kernel)) ggX2_linksBehind_X2_highOf
theorem dX2_linksBehind_0 : decode cX2_linksBehind 0 = .ok (.iconst 0, 1) := by decide +kernel
theorem dX2_linksBehind_1 : decode cX2_linksBehind 1 = .ok (.istore_n 2, 1) := by decide +kernel
theorem dX2_linksBehind_2 : decode cX2_linksBehind 2 = .ok (.iconst 0, 1) := by decide +kernel
theorem dX2_linksBehind_3 : decode cX2_linksBehind 3 = .ok (.istore_n 3, 1) := by decide +kernel
theorem dX2_linksBehind_4 : decode cX2_linksBehind 4 = .ok (.iload_n 3, 1) := by decide +kernel
theorem dX2_linksBehind_5 : decode cX2_linksBehind 5 = .ok (.aload_n 0, 1) := by decide +kernel
theorem dX2_linksBehind_6 : decode cX2_linksBehind 6 = .ok (.getfield 31, 3) := by decide +kernel
theorem dX2_linksBehind_9 : decode cX2_linksBehind 9 = .ok (.if_icmp .ge 30, 3) := by decide +kernel
theorem dX2_linksBehind_12 : decode cX2_linksBehind 12 = .ok (.aload_n 0, 1) := by decide +kernel
theorem dX2_linksBehind_13 : decode cX2_linksBehind 13 = .ok (.iload_n 3, 1) := by decide +kernel
theorem dX2_linksBehind_14 : decode cX2_linksBehind 14 = .ok (.invokevirtual 52, 3) := by decide +kernel
theorem dX2_linksBehind_17 : decode cX2_linksBehind 17 = .ok (.iload_n 1, 1) := by decide +kernel
theorem dX2_linksBehind_18 : decode cX2_linksBehind 18 = .ok (.if_icmp .gt 15, 3) := by decide +kernel
theorem dX2_linksBehind_21 : decode cX2_linksBehind 21 = .ok (.iload_n 1, 1) := by decide +kernel
theorem dX2_linksBehind_22 : decode cX2_linksBehind 22 = .ok (.aload_n 0, 1) := by decide +kernel
theorem dX2_linksBehind_23 : decode cX2_linksBehind 23 = .ok (.iload_n 3, 1) := by decide +kernel
theorem dX2_linksBehind_24 : decode cX2_linksBehind 24 = .ok (.invokevirtual 58, 3) := by decide +kernel
theorem dX2_linksBehind_27 : decode cX2_linksBehind 27 = .ok (.if_icmp .ge 6, 3) := by decide +kernel
theorem dX2_linksBehind_30 : decode cX2_linksBehind 30 = .ok (.iinc 2 1, 3) := by decide +kernel
theorem dX2_linksBehind_33 : decode cX2_linksBehind 33 = .ok (.iinc 3 1, 3) := by decide +kernel
theorem dX2_linksBehind_36 : decode cX2_linksBehind 36 = .ok (.goto (-32), 3) := by decide +kernel
theorem dX2_linksBehind_39 : decode cX2_linksBehind 39 = .ok (.iload_n 2, 1) := by decide +kernel
theorem dX2_linksBehind_40 : decode cX2_linksBehind 40 = .ok (.ireturn, 1) := by decide +kernel
set_option maxRecDepth 20000 in
theorem ggX2_othersOver_X2_lowOf : GoodIn wsX2_othersOver wsX2_lowOf := goodIn_r _ [6, 7, 8, 9, 10, 11, 12, 13, 5, 14, 1, 15, 23, 24, 25, 26] (by decide +kernel) (by decide +kernel)
set_option maxRecDepth 20000 in
theorem gX2_othersOver_X2_lowOf : GoodIn wsX2_othersOver (wsV RX2 52 RX2 yX2_lowOf wsX2_lowOf) := goodIn_app (goodIn_of _ (by decide +kernel)) ggX2_othersOver_X2_lowOf
set_option maxRecDepth 20000 in
theorem ggX2_othersOver_X2_highOf : GoodIn wsX2_othersOver wsX2_highOf := goodIn_r _ [19, 20, 21, 9, 22, 11, 12, 13, 5, 14, 1, 15, 23, 24, 25, 26] (by decide +kernel) (by decide +kernel)
set_option maxRecDepth 20000 in
theorem gX2_othersOver_X2_highOf : GoodIn wsX2_othersOver (wsV RX2 58 RX2 yX2_highOf wsX2_highOf) := goodIn_app (goodIn_of _ (by decide +kernel)) ggX2_othersOver_X2_highOf
theorem dX2_othersOver_0 : decode cX2_othersOver 0 = .ok (.iconst 0, 1) := by decide +kernel
theorem dX2_othersOver_1 : decode cX2_othersOver 1 = .ok (.istore_n 2, 1) := by decide +kernel
theorem dX2_othersOver_2 : decode cX2_othersOver 2 = .ok (.iconst 0, 1) := by decide +kernel
theorem dX2_othersOver_3 : decode cX2_othersOver 3 = .ok (.istore_n 3, 1) := by decide +kernel
theorem dX2_othersOver_4 : decode cX2_othersOver 4 = .ok (.iload_n 3, 1) := by decide +kernel
theorem dX2_othersOver_5 : decode cX2_othersOver 5 = .ok (.aload_n 0, 1) := by decide +kernel
theorem dX2_othersOver_6 : decode cX2_othersOver 6 = .ok (.getfield 31, 3) := by decide +kernel
theorem dX2_othersOver_9 : decode cX2_othersOver 9 = .ok (.if_icmp .ge 43, 3) := by decide +kernel
theorem dX2_othersOver_12 : decode cX2_othersOver 12 = .ok (.iload_n 3, 1) := by decide +kernel
theorem dX2_othersOver_13 : decode cX2_othersOver 13 = .ok (.iload_n 1, 1) := by decide +kernel
theorem dX2_othersOver_14 : decode cX2_othersOver 14 = .ok (.if_icmp .eq 32, 3) := by decide +kernel
theorem dX2_othersOver_17 : decode cX2_othersOver 17 = .ok (.aload_n 0, 1) := by decide +kernel
theorem dX2_othersOver_18 : decode cX2_othersOver 18 = .ok (.iload_n 3, 1) := by decide +kernel
theorem dX2_othersOver_19 : decode cX2_othersOver 19 = .ok (.invokevirtual 52, 3) := by decide +kernel
theorem dX2_othersOver_22 : decode cX2_othersOver 22 = .ok (.aload_n 0, 1) := by decide +kernel
theorem dX2_othersOver_23 : decode cX2_othersOver 23 = .ok (.iload_n 1, 1) := by decide +kernel
theorem dX2_othersOver_24 : decode cX2_othersOver 24 = .ok (.invokevirtual 58, 3) := by decide +kernel
theorem dX2_othersOver_27 : decode cX2_othersOver 27 = .ok (.if_icmp .ge 19, 3) := by decide +kernel
theorem dX2_othersOver_30 : decode cX2_othersOver 30 = .ok (.aload_n 0, 1) := by decide +kernel
theorem dX2_othersOver_31 : decode cX2_othersOver 31 = .ok (.iload_n 1, 1) := by decide +kernel
theorem dX2_othersOver_32 : decode cX2_othersOver 32 = .ok (.invokevirtual 52, 3) := by decide +kernel
theorem dX2_othersOver_35 : decode cX2_othersOver 35 = .ok (.aload_n 0, 1) := by decide +kernel
theorem dX2_othersOver_36 : decode cX2_othersOver 36 = .ok (.iload_n 3, 1) := by decide +kernel
theorem dX2_othersOver_37 : decode cX2_othersOver 37 = .ok (.invokevirtual 58, 3) := by decide +kernel
theorem dX2_othersOver_40 : decode cX2_othersOver 40 = .ok (.if_icmp .ge 6, 3) := by decide +kernel
theorem dX2_othersOver_43 : decode cX2_othersOver 43 = .ok (.iinc 2 1, 3) := by decide +kernel
theorem dX2_othersOver_46 : decode cX2_othersOver 46 = .ok (.iinc 3 1, 3) := by decide +kernel
theorem dX2_othersOver_49 : decode cX2_othersOver 49 = .ok (.goto (-45), 3) := by decide +kernel
theorem dX2_othersOver_52 : decode cX2_othersOver 52 = .ok (.iload_n 2, 1) := by decide +kernel
theorem dX2_othersOver_53 : decode cX2_othersOver 53 = .ok (.ireturn, 1) := by decide +kernel
theorem dX3_init_0 : decode cX3_init 0 = .ok (.aload_n 0, 1) := by decide +kernel
theorem dX3_init_1 : decode cX3_init 1 = .ok (.invokespecial 3, 3) := by decide +kernel
theorem dX3_init_4 : decode cX3_init 4 = .ok (.return_, 1) := by decide +kernel
set_option maxRecDepth 20000 in
theorem ggX3_rateAs_X3_asLink : GoodIn wsX3_rateAs wsX3_asLink := goodIn_r _ [6, 7, 8, 9, 10, 11, 12, 13, 14, 15, 16, 17, 18, 81, 82, 83, 84, 85] (by decide +kernel) (by decide +kernel)
set_option maxRecDepth 20000 in
theorem gX3_rateAs_X3_asLink : GoodIn wsX3_rateAs (wsV RX3 9 RX3 yX3_asLink wsX3_asLink) := goodIn_app (goodIn_of _ (by decide +kernel)) ggX3_rateAs_X3_asLink
set_option maxRecDepth 20000 in
theorem ggX3_rateAs_X3_asWood : GoodIn wsX3_rateAs wsX3_asWood := goodIn_r _ [22, 7, 23, 2, 3, 4, 5, 6, 8, 9, 10, 11, 12, 13, 14, 15, 16, 17, 18, 24, 25, 26, 27, 28, 29, 30, 81, 82, 83, 84, 85, 86, 87, 88, 89] (by decide +kernel) (by decide +kernel)
set_option maxRecDepth 20000 in
theorem gX3_rateAs_X3_asWood : GoodIn wsX3_rateAs (wsV RX3 15 RX3 yX3_asWood wsX3_asWood) := goodIn_app (goodIn_of _ (by decide +kernel)) ggX3_rateAs_X3_asWood
set_option maxRecDepth 20000 in
theorem ggX3_rateAs_X3_asBrass : GoodIn wsX3_rateAs wsX3_asBrass := goodIn_r _ [34, 7, 35, 2, 3, 4, 5, 6, 8, 9, 10, 11, 12, 13, 14, 15, 16, 17, 18, 36, 37, 38, 27, 39, 40, 41, 81, 82, 83, 84, 85, 86, 87, 88, 89] (by decide +kernel) (by decide +kernel)
set_option maxRecDepth 20000 in
theorem gX3_rateAs_X3_asBrass : GoodIn wsX3_rateAs (wsV RX3 19 RX3 yX3_asBrass wsX3_asBrass) := goodIn_app (goodIn_of _ (by decide +kernel)) ggX3_rateAs_X3_asBrass
set_option maxRecDepth 20000 in
theorem ggX3_rateAs_X3_asBeech : GoodIn wsX3_rateAs wsX3_asBeech := goodIn_r _ [45, 7, 46, 19, 20, 21, 5, 22, 23, 2, 3, 4, 6, 8, 9, 10, 11, 12, 13, 14, 15, 16, 17, 18, 24, 25, 26, 27, 28, 29, 30, 81, 82, 83, 84, 85, 86, 87, 88, 89] (by decide +kernel) (by decide +kernel)
set_option maxRecDepth 20000 in
theorem gX3_rateAs_X3_asBeech : GoodIn wsX3_rateAs (wsV RX3 22 RX3 yX3_asBeech wsX3_asBeech) := goodIn_app (goodIn_of _ (by decide +kernel)) ggX3_rateAs_X3_asBeech
set_option maxRecDepth 20000 in
theorem ggX3_rateAs_X3_asTip : GoodIn wsX3_rateAs wsX3_asTip := goodIn_r _ [50, 7, 51, 31, 32, 33, 5, 34, 35, 2, 3, 4, 6, 8, 9, 10, 11, 12, 13, 14, 15, 16, 17, 18, 36, 37, 38, 27, 39, 40, 41, 81, 82, 83, 84, 85, 86, 87, 88, 89] (by decide +kernel) (by decide +kernel)
set_option maxRecDepth 20000 in
theorem gX3_rateAs_X3_asTip : GoodIn wsX3_rateAs (wsV RX3 25 RX3 yX3_asTip wsX3_asTip) := goodIn_app (goodIn_of _ (by decide +kernel)) ggX3_rateAs_X3_asTip
set_option maxRecDepth 20000 in
theorem ggX3_rateAs_X3_asIvory : GoodIn wsX3_rateAs wsX3_asIvory := goodIn_r _ [55, 7, 56, 2, 3, 4, 5, 6, 8, 9, 10, 11, 12, 13, 14, 15, 16, 17, 18, 57, 58, 59, 27, 60, 29, 61, 62, 63, 64, 65, 66, 67, 68, 69, 70, 71, 72, 25, 26, 28, 30, 73, 74, 75, 76, 77, 78, 79, 80, 81, 82, 83, 84, 85, 86, 87, 88, 89] (by decide +kernel) (by decide +kernel)
set_option maxRecDepth 20000 in
theorem gX3_rateAs_X3_asIvory : GoodIn wsX3_rateAs (wsV RX3 28 RX3 yX3_asIvory wsX3_asIvory) := goodIn_app (goodIn_of _ (by decide +kernel)) ggX3_rateAs_X3_asIvory
theorem dX3_rateAs_0 : decode cX3_rateAs 0 = .ok (.iload_n 1, 1) := by decide +kernel
theorem dX3_rateAs_1 : decode cX3_rateAs 1 = .ok (.tableswitch 92 0 5 #[39, 47, 56, 65, 74, 83], 39) := by decide +kernel
theorem dX3_rateAs_40 : decode cX3_rateAs 40 = .ok (.aload_n 0, 1) := by decide +kernel
theorem dX3_rateAs_41 : decode cX3_rateAs 41 = .ok (.aload_n 2, 1) := by decide +kernel
theorem dX3_rateAs_42 : decode cX3_rateAs 42 = .ok (.iload 4, 2) := by decide +kernel
theorem dX3_rateAs_44 : decode cX3_rateAs 44 = .ok (.invokevirtual 9, 3) := by decide +kernel
theorem dX3_rateAs_47 : decode cX3_rateAs 47 = .ok (.ireturn, 1) := by decide +kernel
theorem dX3_rateAs_48 : decode cX3_rateAs 48 = .ok (.aload_n 0, 1) := by decide +kernel
theorem dX3_rateAs_49 : decode cX3_rateAs 49 = .ok (.aload_n 2, 1) := by decide +kernel
theorem dX3_rateAs_50 : decode cX3_rateAs 50 = .ok (.aload_n 3, 1) := by decide +kernel
theorem dX3_rateAs_51 : decode cX3_rateAs 51 = .ok (.iload 4, 2) := by decide +kernel
theorem dX3_rateAs_53 : decode cX3_rateAs 53 = .ok (.invokevirtual 15, 3) := by decide +kernel
theorem dX3_rateAs_56 : decode cX3_rateAs 56 = .ok (.ireturn, 1) := by decide +kernel
theorem dX3_rateAs_57 : decode cX3_rateAs 57 = .ok (.aload_n 0, 1) := by decide +kernel
theorem dX3_rateAs_58 : decode cX3_rateAs 58 = .ok (.aload_n 2, 1) := by decide +kernel
theorem dX3_rateAs_59 : decode cX3_rateAs 59 = .ok (.aload_n 3, 1) := by decide +kernel
theorem dX3_rateAs_60 : decode cX3_rateAs 60 = .ok (.iload 4, 2) := by decide +kernel
theorem dX3_rateAs_62 : decode cX3_rateAs 62 = .ok (.invokevirtual 19, 3) := by decide +kernel
theorem dX3_rateAs_65 : decode cX3_rateAs 65 = .ok (.ireturn, 1) := by decide +kernel
theorem dX3_rateAs_66 : decode cX3_rateAs 66 = .ok (.aload_n 0, 1) := by decide +kernel
theorem dX3_rateAs_67 : decode cX3_rateAs 67 = .ok (.aload_n 2, 1) := by decide +kernel
theorem dX3_rateAs_68 : decode cX3_rateAs 68 = .ok (.aload_n 3, 1) := by decide +kernel
theorem dX3_rateAs_69 : decode cX3_rateAs 69 = .ok (.iload 4, 2) := by decide +kernel
theorem dX3_rateAs_71 : decode cX3_rateAs 71 = .ok (.invokevirtual 22, 3) := by decide +kernel
theorem dX3_rateAs_74 : decode cX3_rateAs 74 = .ok (.ireturn, 1) := by decide +kernel
theorem dX3_rateAs_75 : decode cX3_rateAs 75 = .ok (.aload_n 0, 1) := by decide +kernel
theorem dX3_rateAs_76 : decode cX3_rateAs 76 = .ok (.aload_n 2, 1) := by decide +kernel
theorem dX3_rateAs_77 : decode cX3_rateAs 77 = .ok (.aload_n 3, 1) := by decide +kernel
theorem dX3_rateAs_78 : decode cX3_rateAs 78 = .ok (.iload 4, 2) := by decide +kernel
theorem dX3_rateAs_80 : decode cX3_rateAs 80 = .ok (.invokevirtual 25, 3) := by decide +kernel
theorem dX3_rateAs_83 : decode cX3_rateAs 83 = .ok (.ireturn, 1) := by decide +kernel
theorem dX3_rateAs_84 : decode cX3_rateAs 84 = .ok (.aload_n 0, 1) := by decide +kernel
theorem dX3_rateAs_85 : decode cX3_rateAs 85 = .ok (.aload_n 2, 1) := by decide +kernel
theorem dX3_rateAs_86 : decode cX3_rateAs 86 = .ok (.aload_n 3, 1) := by decide +kernel
theorem dX3_rateAs_87 : decode cX3_rateAs 87 = .ok (.iload 4, 2) := by decide +kernel
theorem dX3_rateAs_89 : decode cX3_rateAs 89 = .ok (.invokevirtual 28, 3) := by decide +kernel
theorem dX3_rateAs_92 : decode cX3_rateAs 92 = .ok (.ireturn, 1) := by decide +kernel
theorem dX3_rateAs_93 : decode cX3_rateAs 93 = .ok (.ldc 31, 2) := by decide +kernel
theorem dX3_rateAs_95 : decode cX3_rateAs 95 = .ok (.ireturn, 1) := by decide +kernel
set_option maxRecDepth 20000 in
theorem ggX3_asLink_X5_lengthOf : GoodIn wsX3_asLink wsX5_lengthOf := goodIn_r _ [6, 7, 8, 9, 10, 5, 11, 12, 14, 15, 16, 17] (by decide +kernel) (by decide +kernel)
set_option maxRecDepth 20000 in
theorem gX3_asLink_X5_lengthOf : GoodIn wsX3_asLink (wsV RX3 36 RX5 yX5_lengthOf wsX5_lengthOf) := goodIn_app (goodIn_of _ (by decide +kernel)) ggX3_asLink_X5_lengthOf
theorem dX3_asLink_0 : decode cX3_asLink 0 = .ok (.aload_n 0, 1) := by decide +kernel
theorem dX3_asLink_1 : decode cX3_asLink 1 = .ok (.dup, 1) := by decide +kernel
theorem dX3_asLink_2 : decode cX3_asLink 2 = .ok (.getfield 32, 3) := by decide +kernel
theorem dX3_asLink_5 : decode cX3_asLink 5 = .ok (.lconst 1, 1) := by decide +kernel
theorem dX3_asLink_6 : decode cX3_asLink 6 = .ok (.ladd, 1) := by decide +kernel
theorem dX3_asLink_7 : decode cX3_asLink 7 = .ok (.putfield 32, 3) := by decide +kernel
theorem dX3_asLink_10 : decode cX3_asLink 10 = .ok (.aload_n 1, 1) := by decide +kernel
theorem dX3_asLink_11 : decode cX3_asLink 11 = .ok (.iload_n 2, 1) := by decide +kernel
theorem dX3_asLink_12 : decode cX3_asLink 12 = .ok (.invokevirtual 36, 3) := by decide +kernel
theorem dX3_asLink_15 : decode cX3_asLink 15 = .ok (.ireturn, 1) := by decide +kernel
set_option maxRecDepth 20000 in
theorem ggX3_asWood_X3_asLink : GoodIn wsX3_asWood wsX3_asLink := goodIn_r _ [7, 1, 8, 9, 10, 11, 12, 13, 14, 15, 16, 17, 18, 26, 27, 28, 29, 30] (by decide +kernel) (by decide +kernel)
set_option maxRecDepth 20000 in
theorem gX3_asWood_X3_asLink : GoodIn wsX3_asWood (wsV RX3 9 RX3 yX3_asLink wsX3_asLink) := goodIn_app (goodIn_of _ (by decide +kernel)) ggX3_asWood_X3_asLink
set_option maxRecDepth 20000 in
theorem ggX3_asWood_X2_placeOf : GoodIn wsX3_asWood wsX2_placeOf := goodIn_r _ [23, 24, 25, 31, 32, 33, 34] (by decide +kernel) (by decide +kernel)
set_option maxRecDepth 20000 in
theorem gX3_asWood_X2_placeOf : GoodIn wsX3_asWood (wsV RX3 44 RX2 yX2_placeOf wsX2_placeOf) := goodIn_app (goodIn_of _ (by decide +kernel)) ggX3_asWood_X2_placeOf
theorem dX3_asWood_0 : decode cX3_asWood 0 = .ok (.aload_n 0, 1) := by decide +kernel
theorem dX3_asWood_1 : decode cX3_asWood 1 = .ok (.dup, 1) := by decide +kernel
theorem dX3_asWood_2 : decode cX3_asWood 2 = .ok (.getfield 32, 3) := by decide +kernel
theorem dX3_asWood_5 : decode cX3_asWood 5 = .ok (.ldc2_w 42, 3) := by decide +kernel
theorem dX3_asWood_8 : decode cX3_asWood 8 = .ok (.ladd, 1) := by decide +kernel
theorem dX3_asWood_9 : decode cX3_asWood 9 = .ok (.putfield 32, 3) := by decide +kernel
theorem dX3_asWood_12 : decode cX3_asWood 12 = .ok (.aload_n 0, 1) := by decide +kernel
theorem dX3_asWood_13 : decode cX3_asWood 13 = .ok (.aload_n 1, 1) := by decide +kernel
theorem dX3_asWood_14 : decode cX3_asWood 14 = .ok (.iload_n 3, 1) := by decide +kernel
theorem dX3_asWood_15 : decode cX3_asWood 15 = .ok (.invokevirtual 9, 3) := by decide +kernel
theorem dX3_asWood_18 : decode cX3_asWood 18 = .ok (.aload_n 2, 1) := by decide +kernel
theorem dX3_asWood_19 : decode cX3_asWood 19 = .ok (.iload_n 3, 1) := by decide +kernel
theorem dX3_asWood_20 : decode cX3_asWood 20 = .ok (.invokevirtual 44, 3) := by decide +kernel
theorem dX3_asWood_23 : decode cX3_asWood 23 = .ok (.iadd, 1) := by decide +kernel
theorem dX3_asWood_24 : decode cX3_asWood 24 = .ok (.ireturn, 1) := by decide +kernel
set_option maxRecDepth 20000 in
theorem ggX3_asBrass_X3_asLink : GoodIn wsX3_asBrass wsX3_asLink := goodIn_r _ [7, 1, 8, 9, 10, 11, 12, 13, 14, 15, 16, 17, 18, 26, 27, 28, 29, 30] (by decide +kernel) (by decide +kernel)
set_option maxRecDepth 20000 in
theorem gX3_asBrass_X3_asLink : GoodIn wsX3_asBrass (wsV RX3 9 RX3 yX3_asLink wsX3_asLink) := goodIn_app (goodIn_of _ (by decide +kernel)) ggX3_asBrass_X3_asLink
set_option maxRecDepth 20000 in
theorem ggX3_asBrass_X2_span : GoodIn wsX3_asBrass wsX2_span := goodIn_r _ [23, 24, 25, 31, 32, 33, 34] (by decide +kernel) (by decide +kernel)
set_option maxRecDepth 20000 in
theorem gX3_asBrass_X2_span : GoodIn wsX3_asBrass (wsV RX3 51 RX2 yX2_span wsX2_span) := goodIn_app (goodIn_of _ (by decide +kernel)) ggX3_asBrass_X2_span
theorem dX3_asBrass_0 : decode cX3_asBrass 0 = .ok (.aload_n 0, 1) := by decide +kernel
theorem dX3_asBrass_1 : decode cX3_asBrass 1 = .ok (.dup, 1) := by decide +kernel
theorem dX3_asBrass_2 : decode cX3_asBrass 2 = .ok (.getfield 32, 3) := by decide +kernel
theorem dX3_asBrass_5 : decode cX3_asBrass 5 = .ok (.ldc2_w 49, 3) := by decide +kernel
theorem dX3_asBrass_8 : decode cX3_asBrass 8 = .ok (.ladd, 1) := by decide +kernel
theorem dX3_asBrass_9 : decode cX3_asBrass 9 = .ok (.putfield 32, 3) := by decide +kernel
theorem dX3_asBrass_12 : decode cX3_asBrass 12 = .ok (.aload_n 0, 1) := by decide +kernel
theorem dX3_asBrass_13 : decode cX3_asBrass 13 = .ok (.aload_n 1, 1) := by decide +kernel
theorem dX3_asBrass_14 : decode cX3_asBrass 14 = .ok (.iload_n 3, 1) := by decide +kernel
theorem dX3_asBrass_15 : decode cX3_asBrass 15 = .ok (.invokevirtual 9, 3) := by decide +kernel
theorem dX3_asBrass_18 : decode cX3_asBrass 18 = .ok (.aload_n 2, 1) := by decide +kernel
theorem dX3_asBrass_19 : decode cX3_asBrass 19 = .ok (.invokevirtual 51, 3) := by decide +kernel
theorem dX3_asBrass_22 : decode cX3_asBrass 22 = .ok (.isub, 1) := by decide +kernel
theorem dX3_asBrass_23 : decode cX3_asBrass 23 = .ok (.ireturn, 1) := by decide +kernel
set_option maxRecDepth 20000 in
theorem ggX3_asBeech_X3_asWood : GoodIn wsX3_asBeech wsX3_asWood := goodIn_r _ [7, 1, 8, 9, 10, 11, 6, 12, 13, 14, 15, 16, 17, 18, 19, 20, 21, 22, 23, 24, 25, 26, 27, 28, 29, 30, 31, 32, 33, 34, 35, 36, 37, 38, 39] (by decide +kernel) (by decide +kernel)
set_option maxRecDepth 20000 in
theorem gX3_asBeech_X3_asWood : GoodIn wsX3_asBeech (wsV RX3 15 RX3 yX3_asWood wsX3_asWood) := goodIn_app (goodIn_of _ (by decide +kernel)) ggX3_asBeech_X3_asWood
theorem dX3_asBeech_0 : decode cX3_asBeech 0 = .ok (.aload_n 0, 1) := by decide +kernel
theorem dX3_asBeech_1 : decode cX3_asBeech 1 = .ok (.dup, 1) := by decide +kernel
theorem dX3_asBeech_2 : decode cX3_asBeech 2 = .ok (.getfield 32, 3) := by decide +kernel
theorem dX3_asBeech_5 : decode cX3_asBeech 5 = .ok (.ldc2_w 55, 3) := by decide +kernel
theorem dX3_asBeech_8 : decode cX3_asBeech 8 = .ok (.ladd, 1) := by decide +kernel
theorem dX3_asBeech_9 : decode cX3_asBeech 9 = .ok (.putfield 32, 3) := by decide +kernel
theorem dX3_asBeech_12 : decode cX3_asBeech 12 = .ok (.iconst 2, 1) := by decide +kernel
theorem dX3_asBeech_13 : decode cX3_asBeech 13 = .ok (.aload_n 0, 1) := by decide +kernel
theorem dX3_asBeech_14 : decode cX3_asBeech 14 = .ok (.aload_n 1, 1) := by decide +kernel
theorem dX3_asBeech_15 : decode cX3_asBeech 15 = .ok (.aload_n 2, 1) := by decide +kernel
theorem dX3_asBeech_16 : decode cX3_asBeech 16 = .ok (.iload_n 3, 1) := by decide +kernel
theorem dX3_asBeech_17 : decode cX3_asBeech 17 = .ok (.invokevirtual 15, 3) := by decide +kernel
theorem dX3_asBeech_20 : decode cX3_asBeech 20 = .ok (.imul, 1) := by decide +kernel
theorem dX3_asBeech_21 : decode cX3_asBeech 21 = .ok (.ireturn, 1) := by decide +kernel
set_option maxRecDepth 20000 in
theorem ggX3_asTip_X3_asBrass : GoodIn wsX3_asTip wsX3_asBrass := goodIn_r _ [7, 1, 8, 9, 10, 11, 6, 12, 13, 14, 15, 16, 17, 18, 19, 20, 21, 22, 23, 24, 25, 26, 27, 28, 29, 30, 31, 32, 33, 34, 35, 36, 37, 38, 39] (by decide +kernel) (by decide +kernel)
set_option maxRecDepth 20000 in
theorem gX3_asTip_X3_asBrass : GoodIn wsX3_asTip (wsV RX3 19 RX3 yX3_asBrass wsX3_asBrass) := goodIn_app (goodIn_of _ (by decide +kernel)) ggX3_asTip_X3_asBrass
theorem dX3_asTip_0 : decode cX3_asTip 0 = .ok (.aload_n 0, 1) := by decide +kernel
theorem dX3_asTip_1 : decode cX3_asTip 1 = .ok (.dup, 1) := by decide +kernel
theorem dX3_asTip_2 : decode cX3_asTip 2 = .ok (.getfield 32, 3) := by decide +kernel
theorem dX3_asTip_5 : decode cX3_asTip 5 = .ok (.ldc2_w 57, 3) := by decide +kernel
theorem dX3_asTip_8 : decode cX3_asTip 8 = .ok (.ladd, 1) := by decide +kernel
theorem dX3_asTip_9 : decode cX3_asTip 9 = .ok (.putfield 32, 3) := by decide +kernel
theorem dX3_asTip_12 : decode cX3_asTip 12 = .ok (.aload_n 0, 1) := by decide +kernel
theorem dX3_asTip_13 : decode cX3_asTip 13 = .ok (.aload_n 1, 1) := by decide +kernel
theorem dX3_asTip_14 : decode cX3_asTip 14 = .ok (.aload_n 2, 1) := by decide +kernel
theorem dX3_asTip_15 : decode cX3_asTip 15 = .ok (.iload_n 3, 1) := by decide +kernel
theorem dX3_asTip_16 : decode cX3_asTip 16 = .ok (.invokevirtual 19, 3) := by decide +kernel
theorem dX3_asTip_19 : decode cX3_asTip 19 = .ok (.iload_n 3, 1) := by decide +kernel
theorem dX3_asTip_20 : decode cX3_asTip 20 = .ok (.iadd, 1) := by decide +kernel
theorem dX3_asTip_21 : decode cX3_asTip 21 = .ok (.ireturn, 1) := by decide +kernel
set_option maxRecDepth 20000 in
theorem ggX3_asIvory_X3_asLink : GoodIn wsX3_asIvory wsX3_asLink := goodIn_r _ [7, 1, 8, 9, 10, 11, 12, 13, 14, 15, 16, 17, 18, 49, 50, 51, 52, 53] (by decide +kernel) (by decide +kernel)
set_option maxRecDepth 20000 in
theorem gX3_asIvory_X3_asLink : GoodIn wsX3_asIvory (wsV RX3 9 RX3 yX3_asLink wsX3_asLink) := goodIn_app (goodIn_of _ (by decide +kernel)) ggX3_asIvory_X3_asLink
set_option maxRecDepth 20000 in
theorem ggX3_asIvory_X2_stack : GoodIn wsX3_asIvory wsX2_stack := goodIn_r _ [23, 24, 25, 26, 27, 28, 29, 30, 31, 22, 32, 33, 34, 35, 36, 37, 38, 39, 40, 41, 42, 43, 44, 45, 46, 47, 48, 54, 55, 56, 57] (by decide +kernel) (by decide +kernel)
set_option maxRecDepth 20000 in
theorem gX3_asIvory_X2_stack : GoodIn wsX3_asIvory (wsV RX3 61 RX2 yX2_stack wsX2_stack) := goodIn_app (goodIn_of _ (by decide +kernel)) ggX3_asIvory_X2_stack
theorem dX3_asIvory_0 : decode cX3_asIvory 0 = .ok (.aload_n 0, 1) := by decide +kernel
theorem dX3_asIvory_1 : decode cX3_asIvory 1 = .ok (.dup, 1) := by decide +kernel
theorem dX3_asIvory_2 : decode cX3_asIvory 2 = .ok (.getfield 32, 3) := by decide +kernel
theorem dX3_asIvory_5 : decode cX3_asIvory 5 = .ok (.ldc2_w 59, 3) := by decide +kernel
theorem dX3_asIvory_8 : decode cX3_asIvory 8 = .ok (.ladd, 1) := by decide +kernel
theorem dX3_asIvory_9 : decode cX3_asIvory 9 = .ok (.putfield 32, 3) := by decide +kernel
theorem dX3_asIvory_12 : decode cX3_asIvory 12 = .ok (.aload_n 0, 1) := by decide +kernel
theorem dX3_asIvory_13 : decode cX3_asIvory 13 = .ok (.aload_n 1, 1) := by decide +kernel
theorem dX3_asIvory_14 : decode cX3_asIvory 14 = .ok (.iload_n 3, 1) := by decide +kernel
theorem dX3_asIvory_15 : decode cX3_asIvory 15 = .ok (.invokevirtual 9, 3) := by decide +kernel
theorem dX3_asIvory_18 : decode cX3_asIvory 18 = .ok (.aload_n 2, 1) := by decide +kernel
theorem dX3_asIvory_19 : decode cX3_asIvory 19 = .ok (.invokevirtual 61, 3) := by decide +kernel
theorem dX3_asIvory_22 : decode cX3_asIvory 22 = .ok (.iadd, 1) := by decide +kernel
theorem dX3_asIvory_23 : decode cX3_asIvory 23 = .ok (.ireturn, 1) := by decide +kernel
set_option maxRecDepth 20000 in
theorem ggX4_init_X2_init : GoodIn wsX4_init wsX2_init := goodIn_r _ [15, 16, 2, 3, 4, 17, 24, 25, 26, 27] (by decide +kernel) (by decide +kernel)
set_option maxRecDepth 20000 in
theorem gX4_init_X2_init_n27 : GoodIn wsX4_init (wsX2_init) := ggX4_init_X2_init
theorem dX4_init_0 : decode cX4_init 0 = .ok (.aload_n 0, 1) := by decide +kernel
theorem dX4_init_1 : decode cX4_init 1 = .ok (.invokespecial 3, 3) := by decide +kernel
theorem dX4_init_4 : decode cX4_init 4 = .ok (.aload_n 0, 1) := by decide +kernel
theorem dX4_init_5 : decode cX4_init 5 = .ok (.bipush 6, 2) := by decide +kernel
theorem dX4_init_7 : decode cX4_init 7 = .ok (.newarray .int, 2) := by decide +kernel
theorem dX4_init_9 : decode cX4_init 9 = .ok (.putfield 9, 3) := by decide +kernel
theorem dX4_init_12 : decode cX4_init 12 = .ok (.aload_n 0, 1) := by decide +kernel
theorem dX4_init_13 : decode cX4_init 13 = .ok (.bipush 6, 2) := by decide +kernel
theorem dX4_init_15 : decode cX4_init 15 = .ok (.newarray .int, 2) := by decide +kernel
theorem dX4_init_17 : decode cX4_init 17 = .ok (.putfield 15, 3) := by decide +kernel
theorem dX4_init_20 : decode cX4_init 20 = .ok (.aload_n 0, 1) := by decide +kernel
theorem dX4_init_21 : decode cX4_init 21 = .ok (.bipush 90, 2) := by decide +kernel
theorem dX4_init_23 : decode cX4_init 23 = .ok (.newarray .boolean, 2) := by decide +kernel
theorem dX4_init_25 : decode cX4_init 25 = .ok (.putfield 18, 3) := by decide +kernel
theorem dX4_init_28 : decode cX4_init 28 = .ok (.aload_n 0, 1) := by decide +kernel
theorem dX4_init_29 : decode cX4_init 29 = .ok (.sipush 181, 3) := by decide +kernel
theorem dX4_init_32 : decode cX4_init 32 = .ok (.newarray .int, 2) := by decide +kernel
theorem dX4_init_34 : decode cX4_init 34 = .ok (.putfield 22, 3) := by decide +kernel
theorem dX4_init_37 : decode cX4_init 37 = .ok (.aload_n 0, 1) := by decide +kernel
theorem dX4_init_38 : decode cX4_init 38 = .ok (.new 25, 3) := by decide +kernel
theorem dX4_init_41 : decode cX4_init 41 = .ok (.dup, 1) := by decide +kernel
theorem dX4_init_42 : decode cX4_init 42 = .ok (.invokespecial 27, 3) := by decide +kernel
theorem dX4_init_45 : decode cX4_init 45 = .ok (.putfield 28, 3) := by decide +kernel
theorem dX4_init_48 : decode cX4_init 48 = .ok (.return_, 1) := by decide +kernel
theorem dX4_isFull_0 : decode cX4_isFull 0 = .ok (.aload_n 0, 1) := by decide +kernel
theorem dX4_isFull_1 : decode cX4_isFull 1 = .ok (.getfield 32, 3) := by decide +kernel
theorem dX4_isFull_4 : decode cX4_isFull 4 = .ok (.bipush 6, 2) := by decide +kernel
theorem dX4_isFull_6 : decode cX4_isFull 6 = .ok (.if_icmp .lt 7, 3) := by decide +kernel
theorem dX4_isFull_9 : decode cX4_isFull 9 = .ok (.iconst 1, 1) := by decide +kernel
theorem dX4_isFull_10 : decode cX4_isFull 10 = .ok (.goto 4, 3) := by decide +kernel
theorem dX4_isFull_13 : decode cX4_isFull 13 = .ok (.iconst 0, 1) := by decide +kernel
theorem dX4_isFull_14 : decode cX4_isFull 14 = .ok (.ireturn, 1) := by decide +kernel
theorem dX4_loseAll_0 : decode cX4_loseAll 0 = .ok (.aload_n 0, 1) := by decide +kernel
theorem dX4_loseAll_1 : decode cX4_loseAll 1 = .ok (.iconst 0, 1) := by decide +kernel
theorem dX4_loseAll_2 : decode cX4_loseAll 2 = .ok (.putfield 32, 3) := by decide +kernel
theorem dX4_loseAll_5 : decode cX4_loseAll 5 = .ok (.return_, 1) := by decide +kernel
set_option maxRecDepth 20000 in
theorem ggX4_note_X4_isFull : GoodIn wsX4_note wsX4_isFull := goodIn_r _ [8, 2, 9, 10, 11, 12, 13, 14] (by decide +kernel) (by decide +kernel)
set_option maxRecDepth 20000 in
theorem gX4_note_X4_isFull : GoodIn wsX4_note (wsV RX4 36 RX4 yX4_isFull wsX4_isFull) := goodIn_app (goodIn_of _ (by decide +kernel)) ggX4_note_X4_isFull
theorem dX4_note_0 : decode cX4_note 0 = .ok (.aload_n 0, 1) := by decide +kernel
theorem dX4_note_1 : decode cX4_note 1 = .ok (.invokevirtual 36, 3) := by decide +kernel
theorem dX4_note_4 : decode cX4_note 4 = .ok (.ifCond .ne 33, 3) := by decide +kernel
theorem dX4_note_7 : decode cX4_note 7 = .ok (.aload_n 0, 1) := by decide +kernel
theorem dX4_note_8 : decode cX4_note 8 = .ok (.getfield 9, 3) := by decide +kernel
theorem dX4_note_11 : decode cX4_note 11 = .ok (.aload_n 0, 1) := by decide +kernel
theorem dX4_note_12 : decode cX4_note 12 = .ok (.getfield 32, 3) := by decide +kernel
theorem dX4_note_15 : decode cX4_note 15 = .ok (.iload_n 1, 1) := by decide +kernel
theorem dX4_note_16 : decode cX4_note 16 = .ok (.iastore, 1) := by decide +kernel
theorem dX4_note_17 : decode cX4_note 17 = .ok (.aload_n 0, 1) := by decide +kernel
theorem dX4_note_18 : decode cX4_note 18 = .ok (.getfield 15, 3) := by decide +kernel
theorem dX4_note_21 : decode cX4_note 21 = .ok (.aload_n 0, 1) := by decide +kernel
theorem dX4_note_22 : decode cX4_note 22 = .ok (.getfield 32, 3) := by decide +kernel
theorem dX4_note_25 : decode cX4_note 25 = .ok (.iload_n 2, 1) := by decide +kernel
theorem dX4_note_26 : decode cX4_note 26 = .ok (.iastore, 1) := by decide +kernel
theorem dX4_note_27 : decode cX4_note 27 = .ok (.aload_n 0, 1) := by decide +kernel
theorem dX4_note_28 : decode cX4_note 28 = .ok (.dup, 1) := by decide +kernel
theorem dX4_note_29 : decode cX4_note 29 = .ok (.getfield 32, 3) := by decide +kernel
theorem dX4_note_32 : decode cX4_note 32 = .ok (.iconst 1, 1) := by decide +kernel
theorem dX4_note_33 : decode cX4_note 33 = .ok (.iadd, 1) := by decide +kernel
theorem dX4_note_34 : decode cX4_note 34 = .ok (.putfield 32, 3) := by decide +kernel
theorem dX4_note_37 : decode cX4_note 37 = .ok (.return_, 1) := by decide +kernel
set_option maxRecDepth 20000 in
theorem ggX4_findWays_X5_canFile : GoodIn wsX4_findWays wsX5_canFile := goodIn_r _ [6, 7, 8, 9, 5, 10, 11, 12, 13, 14, 15, 16, 55, 56, 57, 58] (by decide +kernel) (by decide +kernel)
set_option maxRecDepth 20000 in
theorem gX4_findWays_X5_canFile : GoodIn wsX4_findWays (wsV RX4 40 RX5 yX5_canFile wsX5_canFile) := goodIn_app (goodIn_of _ (by decide +kernel)) ggX4_findWays_X5_canFile
set_option maxRecDepth 20000 in
theorem ggX4_findWays_X4_agrees : GoodIn wsX4_findWays wsX4_agrees := goodIn_r _ [21, 22, 23, 24, 25, 26, 27, 28, 29, 30, 31, 32, 33, 34, 35, 36, 37, 38, 39, 40, 41, 42, 43, 44, 45, 46, 47, 48, 49, 50, 51, 52, 53, 54, 55, 56, 57, 58, 59, 60, 61, 62] (by decide +kernel) (by decide +kernel)
set_option maxRecDepth 20000 in
theorem gX4_findWays_X4_agrees : GoodIn wsX4_findWays (wsV RX4 46 RX4 yX4_agrees wsX4_agrees) := goodIn_app (goodIn_of _ (by decide +kernel)) ggX4_findWays_X4_agrees
theorem dX4_findWays_0 : decode cX4_findWays 0 = .ok (.iconst 0, 1) := by decide +kernel
theorem dX4_findWays_1 : decode cX4_findWays 1 = .ok (.istore_n 2, 1) := by decide +kernel
theorem dX4_findWays_2 : decode cX4_findWays 2 = .ok (.iconst 0, 1) := by decide +kernel
theorem dX4_findWays_3 : decode cX4_findWays 3 = .ok (.istore_n 3, 1) := by decide +kernel
theorem dX4_findWays_4 : decode cX4_findWays 4 = .ok (.iload_n 3, 1) := by decide +kernel
theorem dX4_findWays_5 : decode cX4_findWays 5 = .ok (.bipush 9, 2) := by decide +kernel
theorem dX4_findWays_7 : decode cX4_findWays 7 = .ok (.if_icmp .ge 80, 3) := by decide +kernel
theorem dX4_findWays_10 : decode cX4_findWays 10 = .ok (.iconst 1, 1) := by decide +kernel
theorem dX4_findWays_11 : decode cX4_findWays 11 = .ok (.istore 4, 2) := by decide +kernel
theorem dX4_findWays_13 : decode cX4_findWays 13 = .ok (.iload 4, 2) := by decide +kernel
theorem dX4_findWays_15 : decode cX4_findWays 15 = .ok (.bipush 9, 2) := by decide +kernel
theorem dX4_findWays_17 : decode cX4_findWays 17 = .ok (.if_icmp .gt 64, 3) := by decide +kernel
theorem dX4_findWays_20 : decode cX4_findWays 20 = .ok (.aload_n 1, 1) := by decide +kernel
theorem dX4_findWays_21 : decode cX4_findWays 21 = .ok (.iload_n 3, 1) := by decide +kernel
theorem dX4_findWays_22 : decode cX4_findWays 22 = .ok (.iload 4, 2) := by decide +kernel
theorem dX4_findWays_24 : decode cX4_findWays 24 = .ok (.invokevirtual 40, 3) := by decide +kernel
theorem dX4_findWays_27 : decode cX4_findWays 27 = .ok (.ifCond .eq 18, 3) := by decide +kernel
theorem dX4_findWays_30 : decode cX4_findWays 30 = .ok (.aload_n 0, 1) := by decide +kernel
theorem dX4_findWays_31 : decode cX4_findWays 31 = .ok (.aload_n 1, 1) := by decide +kernel
theorem dX4_findWays_32 : decode cX4_findWays 32 = .ok (.iload_n 3, 1) := by decide +kernel
theorem dX4_findWays_33 : decode cX4_findWays 33 = .ok (.iload 4, 2) := by decide +kernel
theorem dX4_findWays_35 : decode cX4_findWays 35 = .ok (.invokevirtual 46, 3) := by decide +kernel
theorem dX4_findWays_38 : decode cX4_findWays 38 = .ok (.ifCond .eq 7, 3) := by decide +kernel
theorem dX4_findWays_41 : decode cX4_findWays 41 = .ok (.iconst 1, 1) := by decide +kernel
theorem dX4_findWays_42 : decode cX4_findWays 42 = .ok (.goto 4, 3) := by decide +kernel
theorem dX4_findWays_45 : decode cX4_findWays 45 = .ok (.iconst 0, 1) := by decide +kernel
theorem dX4_findWays_46 : decode cX4_findWays 46 = .ok (.istore 5, 2) := by decide +kernel
theorem dX4_findWays_48 : decode cX4_findWays 48 = .ok (.aload_n 0, 1) := by decide +kernel
theorem dX4_findWays_49 : decode cX4_findWays 49 = .ok (.getfield 18, 3) := by decide +kernel
theorem dX4_findWays_52 : decode cX4_findWays 52 = .ok (.bipush 10, 2) := by decide +kernel
theorem dX4_findWays_54 : decode cX4_findWays 54 = .ok (.iload_n 3, 1) := by decide +kernel
theorem dX4_findWays_55 : decode cX4_findWays 55 = .ok (.imul, 1) := by decide +kernel
theorem dX4_findWays_56 : decode cX4_findWays 56 = .ok (.iload 4, 2) := by decide +kernel
theorem dX4_findWays_58 : decode cX4_findWays 58 = .ok (.iadd, 1) := by decide +kernel
theorem dX4_findWays_59 : decode cX4_findWays 59 = .ok (.iload 5, 2) := by decide +kernel
theorem dX4_findWays_61 : decode cX4_findWays 61 = .ok (.bastore, 1) := by decide +kernel
theorem dX4_findWays_62 : decode cX4_findWays 62 = .ok (.iload_n 2, 1) := by decide +kernel
theorem dX4_findWays_63 : decode cX4_findWays 63 = .ok (.iload 5, 2) := by decide +kernel
theorem dX4_findWays_65 : decode cX4_findWays 65 = .ok (.ifCond .eq 7, 3) := by decide +kernel
theorem dX4_findWays_68 : decode cX4_findWays 68 = .ok (.iconst 1, 1) := by decide +kernel
theorem dX4_findWays_69 : decode cX4_findWays 69 = .ok (.goto 4, 3) := by decide +kernel
theorem dX4_findWays_72 : decode cX4_findWays 72 = .ok (.iconst 0, 1) := by decide +kernel
theorem dX4_findWays_73 : decode cX4_findWays 73 = .ok (.iadd, 1) := by decide +kernel
theorem dX4_findWays_74 : decode cX4_findWays 74 = .ok (.istore_n 2, 1) := by decide +kernel
theorem dX4_findWays_75 : decode cX4_findWays 75 = .ok (.iinc 4 1, 3) := by decide +kernel
theorem dX4_findWays_78 : decode cX4_findWays 78 = .ok (.goto (-65), 3) := by decide +kernel
theorem dX4_findWays_81 : decode cX4_findWays 81 = .ok (.iinc 3 1, 3) := by decide +kernel
theorem dX4_findWays_84 : decode cX4_findWays 84 = .ok (.goto (-80), 3) := by decide +kernel
theorem dX4_findWays_87 : decode cX4_findWays 87 = .ok (.iload_n 2, 1) := by decide +kernel
theorem dX4_findWays_88 : decode cX4_findWays 88 = .ok (.ireturn, 1) := by decide +kernel
set_option maxRecDepth 20000 in
theorem ggX4_agrees_X2_layOutFiled : GoodIn wsX4_agrees wsX2_layOutFiled := goodIn_r _ [9, 10, 11, 12, 13, 14, 15, 16, 17, 18, 19, 20, 21, 22, 23, 34, 35, 36, 37, 38, 39, 40, 41] (by decide +kernel) (by decide +kernel)
set_option maxRecDepth 20000 in
theorem gX4_agrees_X2_layOutFiled : GoodIn wsX4_agrees (wsV RX4 50 RX2 yX2_layOutFiled wsX2_layOutFiled) := goodIn_app (goodIn_of _ (by decide +kernel)) ggX4_agrees_X2_layOutFiled
set_option maxRecDepth 20000 in
theorem ggX4_agrees_X2_span : GoodIn wsX4_agrees wsX2_span := goodIn_r _ [27, 16, 15, 38, 39, 40, 41] (by decide +kernel) (by decide +kernel)
set_option maxRecDepth 20000 in
theorem gX4_agrees_X2_span : GoodIn wsX4_agrees (wsV RX4 54 RX2 yX2_span wsX2_span) := goodIn_app (goodIn_of _ (by decide +kernel)) ggX4_agrees_X2_span
theorem dX4_agrees_0 : decode cX4_agrees 0 = .ok (.iconst 0, 1) := by decide +kernel
theorem dX4_agrees_1 : decode cX4_agrees 1 = .ok (.istore 4, 2) := by decide +kernel
theorem dX4_agrees_3 : decode cX4_agrees 3 = .ok (.iload 4, 2) := by decide +kernel
theorem dX4_agrees_5 : decode cX4_agrees 5 = .ok (.aload_n 0, 1) := by decide +kernel
theorem dX4_agrees_6 : decode cX4_agrees 6 = .ok (.getfield 32, 3) := by decide +kernel
theorem dX4_agrees_9 : decode cX4_agrees 9 = .ok (.if_icmp .ge 45, 3) := by decide +kernel
theorem dX4_agrees_12 : decode cX4_agrees 12 = .ok (.aload_n 0, 1) := by decide +kernel
theorem dX4_agrees_13 : decode cX4_agrees 13 = .ok (.getfield 28, 3) := by decide +kernel
theorem dX4_agrees_16 : decode cX4_agrees 16 = .ok (.aload_n 1, 1) := by decide +kernel
theorem dX4_agrees_17 : decode cX4_agrees 17 = .ok (.aload_n 0, 1) := by decide +kernel
theorem dX4_agrees_18 : decode cX4_agrees 18 = .ok (.getfield 9, 3) := by decide +kernel
theorem dX4_agrees_21 : decode cX4_agrees 21 = .ok (.iload 4, 2) := by decide +kernel
theorem dX4_agrees_23 : decode cX4_agrees 23 = .ok (.iaload, 1) := by decide +kernel
theorem dX4_agrees_24 : decode cX4_agrees 24 = .ok (.iload_n 2, 1) := by decide +kernel
theorem dX4_agrees_25 : decode cX4_agrees 25 = .ok (.iload_n 3, 1) := by decide +kernel
theorem dX4_agrees_26 : decode cX4_agrees 26 = .ok (.invokevirtual 50, 3) := by decide +kernel
theorem dX4_agrees_29 : decode cX4_agrees 29 = .ok (.aload_n 0, 1) := by decide +kernel
theorem dX4_agrees_30 : decode cX4_agrees 30 = .ok (.getfield 28, 3) := by decide +kernel
theorem dX4_agrees_33 : decode cX4_agrees 33 = .ok (.invokevirtual 54, 3) := by decide +kernel
theorem dX4_agrees_36 : decode cX4_agrees 36 = .ok (.aload_n 0, 1) := by decide +kernel
theorem dX4_agrees_37 : decode cX4_agrees 37 = .ok (.getfield 15, 3) := by decide +kernel
theorem dX4_agrees_40 : decode cX4_agrees 40 = .ok (.iload 4, 2) := by decide +kernel
theorem dX4_agrees_42 : decode cX4_agrees 42 = .ok (.iaload, 1) := by decide +kernel
theorem dX4_agrees_43 : decode cX4_agrees 43 = .ok (.if_icmp .eq 5, 3) := by decide +kernel
theorem dX4_agrees_46 : decode cX4_agrees 46 = .ok (.iconst 0, 1) := by decide +kernel
theorem dX4_agrees_47 : decode cX4_agrees 47 = .ok (.ireturn, 1) := by decide +kernel
theorem dX4_agrees_48 : decode cX4_agrees 48 = .ok (.iinc 4 1, 3) := by decide +kernel
theorem dX4_agrees_51 : decode cX4_agrees 51 = .ok (.goto (-48), 3) := by decide +kernel
theorem dX4_agrees_54 : decode cX4_agrees 54 = .ok (.iconst 1, 1) := by decide +kernel
theorem dX4_agrees_55 : decode cX4_agrees 55 = .ok (.ireturn, 1) := by decide +kernel
set_option maxRecDepth 20000 in
theorem ggX4_firstWay_X4_findWays : GoodIn wsX4_firstWay wsX4_findWays := goodIn_r _ [6, 1, 7, 8, 9, 10, 11, 12, 13, 14, 15, 16, 17, 18, 19, 20, 21, 22, 23, 24, 5, 25, 26, 27, 28, 29, 30, 31, 32, 33, 34, 35, 36, 37, 38, 39, 40, 41, 42, 43, 44, 45, 46, 47, 48, 49, 50, 51, 52, 53, 54, 55, 56, 57, 58, 59, 60, 61, 62, 63, 64, 65, 66] (by decide +kernel) (by decide +kernel)
set_option maxRecDepth 20000 in
theorem gX4_firstWay_X4_findWays : GoodIn wsX4_firstWay (wsV RX4 58 RX4 yX4_findWays wsX4_findWays) := goodIn_app (goodIn_of _ (by decide +kernel)) ggX4_firstWay_X4_findWays
theorem dX4_firstWay_0 : decode cX4_firstWay 0 = .ok (.aload_n 0, 1) := by decide +kernel
theorem dX4_firstWay_1 : decode cX4_firstWay 1 = .ok (.aload_n 1, 1) := by decide +kernel
theorem dX4_firstWay_2 : decode cX4_firstWay 2 = .ok (.invokevirtual 58, 3) := by decide +kernel
theorem dX4_firstWay_5 : decode cX4_firstWay 5 = .ok (.pop, 1) := by decide +kernel
theorem dX4_firstWay_6 : decode cX4_firstWay 6 = .ok (.iconst 0, 1) := by decide +kernel
theorem dX4_firstWay_7 : decode cX4_firstWay 7 = .ok (.istore_n 2, 1) := by decide +kernel
theorem dX4_firstWay_8 : decode cX4_firstWay 8 = .ok (.iload_n 2, 1) := by decide +kernel
theorem dX4_firstWay_9 : decode cX4_firstWay 9 = .ok (.aload_n 0, 1) := by decide +kernel
theorem dX4_firstWay_10 : decode cX4_firstWay 10 = .ok (.getfield 18, 3) := by decide +kernel
theorem dX4_firstWay_13 : decode cX4_firstWay 13 = .ok (.arraylength, 1) := by decide +kernel
theorem dX4_firstWay_14 : decode cX4_firstWay 14 = .ok (.if_icmp .ge 20, 3) := by decide +kernel
theorem dX4_firstWay_17 : decode cX4_firstWay 17 = .ok (.aload_n 0, 1) := by decide +kernel
theorem dX4_firstWay_18 : decode cX4_firstWay 18 = .ok (.getfield 18, 3) := by decide +kernel
theorem dX4_firstWay_21 : decode cX4_firstWay 21 = .ok (.iload_n 2, 1) := by decide +kernel
theorem dX4_firstWay_22 : decode cX4_firstWay 22 = .ok (.baload, 1) := by decide +kernel
theorem dX4_firstWay_23 : decode cX4_firstWay 23 = .ok (.ifCond .eq 5, 3) := by decide +kernel
theorem dX4_firstWay_26 : decode cX4_firstWay 26 = .ok (.iload_n 2, 1) := by decide +kernel
theorem dX4_firstWay_27 : decode cX4_firstWay 27 = .ok (.ireturn, 1) := by decide +kernel
theorem dX4_firstWay_28 : decode cX4_firstWay 28 = .ok (.iinc 2 1, 3) := by decide +kernel
theorem dX4_firstWay_31 : decode cX4_firstWay 31 = .ok (.goto (-23), 3) := by decide +kernel
theorem dX4_firstWay_34 : decode cX4_firstWay 34 = .ok (.bipush (-9), 2) := by decide +kernel
theorem dX4_firstWay_36 : decode cX4_firstWay 36 = .ok (.ireturn, 1) := by decide +kernel
set_option maxRecDepth 20000 in
theorem ggX4_bestTry_X4_findWays : GoodIn wsX4_bestTry wsX4_findWays := goodIn_r _ [5, 6, 7, 8, 9, 10, 11, 12, 13, 14, 15, 16, 17, 18, 19, 20, 21, 22, 23, 24, 4, 25, 26, 27, 28, 29, 30, 31, 32, 33, 34, 35, 36, 37, 38, 39, 40, 41, 42, 43, 44, 45, 46, 47, 48, 49, 50, 51, 52, 81, 82, 83, 84, 85, 86, 87, 88, 89, 90, 91, 92, 93, 94] (by decide +kernel) (by decide +kernel)
set_option maxRecDepth 20000 in
theorem gX4_bestTry_X4_findWays : GoodIn wsX4_bestTry (wsV RX4 58 RX4 yX4_findWays wsX4_findWays) := goodIn_app (goodIn_of _ (by decide +kernel)) ggX4_bestTry_X4_findWays
set_option maxRecDepth 20000 in
theorem ggX4_bestTry_X5_foldLimit : GoodIn wsX4_bestTry wsX5_foldLimit := goodIn_r _ [56, 57, 58, 59, 10, 60, 21, 61, 44, 37, 45, 87, 88, 89, 90] (by decide +kernel) (by decide +kernel)
set_option maxRecDepth 20000 in
theorem gX4_bestTry_X5_foldLimit : GoodIn wsX4_bestTry (wsV RX4 62 RX5 yX5_foldLimit wsX5_foldLimit) := goodIn_app (goodIn_of _ (by decide +kernel)) ggX4_bestTry_X5_foldLimit
set_option maxRecDepth 20000 in
theorem ggX4_bestTry_X5_isFold : GoodIn wsX4_bestTry wsX5_isFold := goodIn_r _ [65, 66, 67, 68, 54, 55, 10, 56, 57, 58, 59, 60, 21, 61, 44, 37, 45, 87, 88, 89, 90] (by decide +kernel) (by decide +kernel)
set_option maxRecDepth 20000 in
theorem gX4_bestTry_X5_isFold : GoodIn wsX4_bestTry (wsV RX4 65 RX5 yX5_isFold wsX5_isFold) := goodIn_app (goodIn_of _ (by decide +kernel)) ggX4_bestTry_X5_isFold
set_option maxRecDepth 20000 in
theorem ggX4_bestTry_X4_mostAlike : GoodIn wsX4_bestTry wsX4_mostAlike := goodIn_r _ [72, 73, 6, 27, 74, 44, 37, 45, 30, 31, 32, 33, 34, 35, 36, 38, 39, 40, 41, 42, 43, 46, 47, 48, 49, 50, 51, 52, 75, 76, 77, 4, 78, 79, 80, 81, 82, 83, 84, 85, 86, 87, 88, 89, 90, 91, 92, 93, 94] (by decide +kernel) (by decide +kernel)
set_option maxRecDepth 20000 in
theorem gX4_bestTry_X4_mostAlike : GoodIn wsX4_bestTry (wsV RX4 69 RX4 yX4_mostAlike wsX4_mostAlike) := goodIn_app (goodIn_of _ (by decide +kernel)) ggX4_bestTry_X4_mostAlike
theorem dX4_bestTry_0 : decode cX4_bestTry 0 = .ok (.aload_n 0, 1) := by decide +kernel
theorem dX4_bestTry_1 : decode cX4_bestTry 1 = .ok (.aload_n 1, 1) := by decide +kernel
theorem dX4_bestTry_2 : decode cX4_bestTry 2 = .ok (.invokevirtual 58, 3) := by decide +kernel
theorem dX4_bestTry_5 : decode cX4_bestTry 5 = .ok (.iconst 1, 1) := by decide +kernel
theorem dX4_bestTry_6 : decode cX4_bestTry 6 = .ok (.iadd, 1) := by decide +kernel
theorem dX4_bestTry_7 : decode cX4_bestTry 7 = .ok (.istore_n 2, 1) := by decide +kernel
theorem dX4_bestTry_8 : decode cX4_bestTry 8 = .ok (.iload_n 2, 1) := by decide +kernel
theorem dX4_bestTry_9 : decode cX4_bestTry 9 = .ok (.iconst 2, 1) := by decide +kernel
theorem dX4_bestTry_10 : decode cX4_bestTry 10 = .ok (.if_icmp .gt 6, 3) := by decide +kernel
theorem dX4_bestTry_13 : decode cX4_bestTry 13 = .ok (.bipush (-9), 2) := by decide +kernel
theorem dX4_bestTry_15 : decode cX4_bestTry 15 = .ok (.ireturn, 1) := by decide +kernel
theorem dX4_bestTry_16 : decode cX4_bestTry 16 = .ok (.bipush (-9), 2) := by decide +kernel
theorem dX4_bestTry_18 : decode cX4_bestTry 18 = .ok (.istore_n 3, 1) := by decide +kernel
theorem dX4_bestTry_19 : decode cX4_bestTry 19 = .ok (.iconst 0, 1) := by decide +kernel
theorem dX4_bestTry_20 : decode cX4_bestTry 20 = .ok (.istore 4, 2) := by decide +kernel
theorem dX4_bestTry_22 : decode cX4_bestTry 22 = .ok (.iload 4, 2) := by decide +kernel
theorem dX4_bestTry_24 : decode cX4_bestTry 24 = .ok (.aload_n 1, 1) := by decide +kernel
theorem dX4_bestTry_25 : decode cX4_bestTry 25 = .ok (.invokevirtual 62, 3) := by decide +kernel
theorem dX4_bestTry_28 : decode cX4_bestTry 28 = .ok (.if_icmp .ge 39, 3) := by decide +kernel
theorem dX4_bestTry_31 : decode cX4_bestTry 31 = .ok (.aload_n 1, 1) := by decide +kernel
theorem dX4_bestTry_32 : decode cX4_bestTry 32 = .ok (.iload 4, 2) := by decide +kernel
theorem dX4_bestTry_34 : decode cX4_bestTry 34 = .ok (.invokevirtual 65, 3) := by decide +kernel
theorem dX4_bestTry_37 : decode cX4_bestTry 37 = .ok (.ifCond .eq 24, 3) := by decide +kernel
theorem dX4_bestTry_40 : decode cX4_bestTry 40 = .ok (.aload_n 0, 1) := by decide +kernel
theorem dX4_bestTry_41 : decode cX4_bestTry 41 = .ok (.aload_n 1, 1) := by decide +kernel
theorem dX4_bestTry_42 : decode cX4_bestTry 42 = .ok (.iload 4, 2) := by decide +kernel
theorem dX4_bestTry_44 : decode cX4_bestTry 44 = .ok (.invokevirtual 69, 3) := by decide +kernel
theorem dX4_bestTry_47 : decode cX4_bestTry 47 = .ok (.istore 5, 2) := by decide +kernel
theorem dX4_bestTry_49 : decode cX4_bestTry 49 = .ok (.iload 5, 2) := by decide +kernel
theorem dX4_bestTry_51 : decode cX4_bestTry 51 = .ok (.iload_n 2, 1) := by decide +kernel
theorem dX4_bestTry_52 : decode cX4_bestTry 52 = .ok (.if_icmp .ge 9, 3) := by decide +kernel
theorem dX4_bestTry_55 : decode cX4_bestTry 55 = .ok (.iload 5, 2) := by decide +kernel
theorem dX4_bestTry_57 : decode cX4_bestTry 57 = .ok (.istore_n 2, 1) := by decide +kernel
theorem dX4_bestTry_58 : decode cX4_bestTry 58 = .ok (.iload 4, 2) := by decide +kernel
theorem dX4_bestTry_60 : decode cX4_bestTry 60 = .ok (.istore_n 3, 1) := by decide +kernel
theorem dX4_bestTry_61 : decode cX4_bestTry 61 = .ok (.iinc 4 1, 3) := by decide +kernel
theorem dX4_bestTry_64 : decode cX4_bestTry 64 = .ok (.goto (-42), 3) := by decide +kernel
theorem dX4_bestTry_67 : decode cX4_bestTry 67 = .ok (.iload_n 3, 1) := by decide +kernel
theorem dX4_bestTry_68 : decode cX4_bestTry 68 = .ok (.ireturn, 1) := by decide +kernel
set_option maxRecDepth 20000 in
theorem ggX4_mostAlike_X2_layOutFiled : GoodIn wsX4_mostAlike wsX2_layOutFiled := goodIn_r _ [12, 13, 14, 6, 15, 16, 17, 18, 19, 20, 5, 7, 21, 22, 23, 41, 42, 43, 44, 45, 46, 47, 48] (by decide +kernel) (by decide +kernel)
set_option maxRecDepth 20000 in
theorem gX4_mostAlike_X2_layOutFiled : GoodIn wsX4_mostAlike (wsV RX4 50 RX2 yX2_layOutFiled wsX2_layOutFiled) := goodIn_app (goodIn_of _ (by decide +kernel)) ggX4_mostAlike_X2_layOutFiled
set_option maxRecDepth 20000 in
theorem ggX4_mostAlike_X2_span : GoodIn wsX4_mostAlike wsX2_span := goodIn_r _ [27, 18, 17, 45, 46, 47, 48] (by decide +kernel) (by decide +kernel)
set_option maxRecDepth 20000 in
theorem gX4_mostAlike_X2_span : GoodIn wsX4_mostAlike (wsV RX4 54 RX2 yX2_span wsX2_span) := goodIn_app (goodIn_of _ (by decide +kernel)) ggX4_mostAlike_X2_span
set_option maxRecDepth 20000 in
theorem ggX4_mostAlike_X4_tallied : GoodIn wsX4_mostAlike wsX4_tallied := goodIn_r _ [32, 1, 33, 22, 34, 35, 36, 37, 38, 39, 40] (by decide +kernel) (by decide +kernel)
set_option maxRecDepth 20000 in
theorem gX4_mostAlike_X4_tallied : GoodIn wsX4_mostAlike (wsV RX4 73 RX4 yX4_tallied wsX4_tallied) := goodIn_app (goodIn_of _ (by decide +kernel)) ggX4_mostAlike_X4_tallied
theorem dX4_mostAlike_0 : decode cX4_mostAlike 0 = .ok (.iconst 0, 1) := by decide +kernel
theorem dX4_mostAlike_1 : decode cX4_mostAlike 1 = .ok (.istore_n 3, 1) := by decide +kernel
theorem dX4_mostAlike_2 : decode cX4_mostAlike 2 = .ok (.iload_n 3, 1) := by decide +kernel
theorem dX4_mostAlike_3 : decode cX4_mostAlike 3 = .ok (.sipush 180, 3) := by decide +kernel
theorem dX4_mostAlike_6 : decode cX4_mostAlike 6 = .ok (.if_icmp .gt 16, 3) := by decide +kernel
theorem dX4_mostAlike_9 : decode cX4_mostAlike 9 = .ok (.aload_n 0, 1) := by decide +kernel
theorem dX4_mostAlike_10 : decode cX4_mostAlike 10 = .ok (.getfield 22, 3) := by decide +kernel
theorem dX4_mostAlike_13 : decode cX4_mostAlike 13 = .ok (.iload_n 3, 1) := by decide +kernel
theorem dX4_mostAlike_14 : decode cX4_mostAlike 14 = .ok (.iconst 0, 1) := by decide +kernel
theorem dX4_mostAlike_15 : decode cX4_mostAlike 15 = .ok (.iastore, 1) := by decide +kernel
theorem dX4_mostAlike_16 : decode cX4_mostAlike 16 = .ok (.iinc 3 1, 3) := by decide +kernel
theorem dX4_mostAlike_19 : decode cX4_mostAlike 19 = .ok (.goto (-17), 3) := by decide +kernel
theorem dX4_mostAlike_22 : decode cX4_mostAlike 22 = .ok (.iconst 0, 1) := by decide +kernel
theorem dX4_mostAlike_23 : decode cX4_mostAlike 23 = .ok (.istore_n 3, 1) := by decide +kernel
theorem dX4_mostAlike_24 : decode cX4_mostAlike 24 = .ok (.iconst 0, 1) := by decide +kernel
theorem dX4_mostAlike_25 : decode cX4_mostAlike 25 = .ok (.istore 4, 2) := by decide +kernel
theorem dX4_mostAlike_27 : decode cX4_mostAlike 27 = .ok (.iload 4, 2) := by decide +kernel
theorem dX4_mostAlike_29 : decode cX4_mostAlike 29 = .ok (.aload_n 0, 1) := by decide +kernel
theorem dX4_mostAlike_30 : decode cX4_mostAlike 30 = .ok (.getfield 18, 3) := by decide +kernel
theorem dX4_mostAlike_33 : decode cX4_mostAlike 33 = .ok (.arraylength, 1) := by decide +kernel
theorem dX4_mostAlike_34 : decode cX4_mostAlike 34 = .ok (.if_icmp .ge 54, 3) := by decide +kernel
theorem dX4_mostAlike_37 : decode cX4_mostAlike 37 = .ok (.aload_n 0, 1) := by decide +kernel
theorem dX4_mostAlike_38 : decode cX4_mostAlike 38 = .ok (.getfield 18, 3) := by decide +kernel
theorem dX4_mostAlike_41 : decode cX4_mostAlike 41 = .ok (.iload 4, 2) := by decide +kernel
theorem dX4_mostAlike_43 : decode cX4_mostAlike 43 = .ok (.baload, 1) := by decide +kernel
theorem dX4_mostAlike_44 : decode cX4_mostAlike 44 = .ok (.ifCond .eq 38, 3) := by decide +kernel
theorem dX4_mostAlike_47 : decode cX4_mostAlike 47 = .ok (.aload_n 0, 1) := by decide +kernel
theorem dX4_mostAlike_48 : decode cX4_mostAlike 48 = .ok (.getfield 28, 3) := by decide +kernel
theorem dX4_mostAlike_51 : decode cX4_mostAlike 51 = .ok (.aload_n 1, 1) := by decide +kernel
theorem dX4_mostAlike_52 : decode cX4_mostAlike 52 = .ok (.iload_n 2, 1) := by decide +kernel
theorem dX4_mostAlike_53 : decode cX4_mostAlike 53 = .ok (.iload 4, 2) := by decide +kernel
theorem dX4_mostAlike_55 : decode cX4_mostAlike 55 = .ok (.bipush 10, 2) := by decide +kernel
theorem dX4_mostAlike_57 : decode cX4_mostAlike 57 = .ok (.idiv, 1) := by decide +kernel
theorem dX4_mostAlike_58 : decode cX4_mostAlike 58 = .ok (.iload 4, 2) := by decide +kernel
theorem dX4_mostAlike_60 : decode cX4_mostAlike 60 = .ok (.bipush 10, 2) := by decide +kernel
theorem dX4_mostAlike_62 : decode cX4_mostAlike 62 = .ok (.irem, 1) := by decide +kernel
theorem dX4_mostAlike_63 : decode cX4_mostAlike 63 = .ok (.invokevirtual 50, 3) := by decide +kernel
theorem dX4_mostAlike_66 : decode cX4_mostAlike 66 = .ok (.iload_n 3, 1) := by decide +kernel
theorem dX4_mostAlike_67 : decode cX4_mostAlike 67 = .ok (.aload_n 0, 1) := by decide +kernel
theorem dX4_mostAlike_68 : decode cX4_mostAlike 68 = .ok (.aload_n 0, 1) := by decide +kernel
theorem dX4_mostAlike_69 : decode cX4_mostAlike 69 = .ok (.getfield 28, 3) := by decide +kernel
theorem dX4_mostAlike_72 : decode cX4_mostAlike 72 = .ok (.invokevirtual 54, 3) := by decide +kernel
theorem dX4_mostAlike_75 : decode cX4_mostAlike 75 = .ok (.invokevirtual 73, 3) := by decide +kernel
theorem dX4_mostAlike_78 : decode cX4_mostAlike 78 = .ok (.invokestatic 77, 3) := by decide +kernel
theorem dX4_mostAlike_81 : decode cX4_mostAlike 81 = .ok (.istore_n 3, 1) := by decide +kernel
theorem dX4_mostAlike_82 : decode cX4_mostAlike 82 = .ok (.iinc 4 1, 3) := by decide +kernel
theorem dX4_mostAlike_85 : decode cX4_mostAlike 85 = .ok (.goto (-58), 3) := by decide +kernel
theorem dX4_mostAlike_88 : decode cX4_mostAlike 88 = .ok (.iload_n 3, 1) := by decide +kernel
theorem dX4_mostAlike_89 : decode cX4_mostAlike 89 = .ok (.ireturn, 1) := by decide +kernel
set_option maxRecDepth 20000 in
theorem ggX4_tallied_X7_isWithin : GoodIn wsX4_tallied wsX7_isWithin := goodIn_r _ [4] (by decide +kernel) (by decide +kernel)
set_option maxRecDepth 20000 in
theorem gX4_tallied_X7_isWithin_n83 : GoodIn wsX4_tallied (wsX7_isWithin) := ggX4_tallied_X7_isWithin
theorem dX4_tallied_0 : decode cX4_tallied 0 = .ok (.iload_n 1, 1) := by decide +kernel
theorem dX4_tallied_1 : decode cX4_tallied 1 = .ok (.iconst 0, 1) := by decide +kernel
theorem dX4_tallied_2 : decode cX4_tallied 2 = .ok (.sipush 180, 3) := by decide +kernel
theorem dX4_tallied_5 : decode cX4_tallied 5 = .ok (.invokestatic 83, 3) := by decide +kernel
theorem dX4_tallied_8 : decode cX4_tallied 8 = .ok (.ifCond .ne 5, 3) := by decide +kernel
theorem dX4_tallied_11 : decode cX4_tallied 11 = .ok (.iconst 0, 1) := by decide +kernel
theorem dX4_tallied_12 : decode cX4_tallied 12 = .ok (.ireturn, 1) := by decide +kernel
theorem dX4_tallied_13 : decode cX4_tallied 13 = .ok (.aload_n 0, 1) := by decide +kernel
theorem dX4_tallied_14 : decode cX4_tallied 14 = .ok (.getfield 22, 3) := by decide +kernel
theorem dX4_tallied_17 : decode cX4_tallied 17 = .ok (.iload_n 1, 1) := by decide +kernel
theorem dX4_tallied_18 : decode cX4_tallied 18 = .ok (.dup2, 1) := by decide +kernel
theorem dX4_tallied_19 : decode cX4_tallied 19 = .ok (.iaload, 1) := by decide +kernel
theorem dX4_tallied_20 : decode cX4_tallied 20 = .ok (.iconst 1, 1) := by decide +kernel
theorem dX4_tallied_21 : decode cX4_tallied 21 = .ok (.iadd, 1) := by decide +kernel
theorem dX4_tallied_22 : decode cX4_tallied 22 = .ok (.iastore, 1) := by decide +kernel
theorem dX4_tallied_23 : decode cX4_tallied 23 = .ok (.aload_n 0, 1) := by decide +kernel
theorem dX4_tallied_24 : decode cX4_tallied 24 = .ok (.getfield 22, 3) := by decide +kernel
theorem dX4_tallied_27 : decode cX4_tallied 27 = .ok (.iload_n 1, 1) := by decide +kernel
theorem dX4_tallied_28 : decode cX4_tallied 28 = .ok (.iaload, 1) := by decide +kernel
theorem dX4_tallied_29 : decode cX4_tallied 29 = .ok (.ireturn, 1) := by decide +kernel
theorem dX5_init_0 : decode cX5_init 0 = .ok (.aload_n 0, 1) := by decide +kernel
theorem dX5_init_1 : decode cX5_init 1 = .ok (.invokespecial 3, 3) := by decide +kernel
theorem dX5_init_4 : decode cX5_init 4 = .ok (.aload_n 0, 1) := by decide +kernel
theorem dX5_init_5 : decode cX5_init 5 = .ok (.bipush 9, 2) := by decide +kernel
theorem dX5_init_7 : decode cX5_init 7 = .ok (.newarray .int, 2) := by decide +kernel
theorem dX5_init_9 : decode cX5_init 9 = .ok (.putfield 9, 3) := by decide +kernel
theorem dX5_init_12 : decode cX5_init 12 = .ok (.return_, 1) := by decide +kernel
theorem dX5_makeEmpty_0 : decode cX5_makeEmpty 0 = .ok (.aload_n 0, 1) := by decide +kernel
theorem dX5_makeEmpty_1 : decode cX5_makeEmpty 1 = .ok (.iconst 0, 1) := by decide +kernel
theorem dX5_makeEmpty_2 : decode cX5_makeEmpty 2 = .ok (.putfield 15, 3) := by decide +kernel
theorem dX5_makeEmpty_5 : decode cX5_makeEmpty 5 = .ok (.aload_n 0, 1) := by decide +kernel
theorem dX5_makeEmpty_6 : decode cX5_makeEmpty 6 = .ok (.iconst 0, 1) := by decide +kernel
theorem dX5_makeEmpty_7 : decode cX5_makeEmpty 7 = .ok (.putfield 19, 3) := by decide +kernel
theorem dX5_makeEmpty_10 : decode cX5_makeEmpty 10 = .ok (.aload_n 0, 1) := by decide +kernel
theorem dX5_makeEmpty_11 : decode cX5_makeEmpty 11 = .ok (.iconst 0, 1) := by decide +kernel
theorem dX5_makeEmpty_12 : decode cX5_makeEmpty 12 = .ok (.putfield 22, 3) := by decide +kernel
theorem dX5_makeEmpty_15 : decode cX5_makeEmpty 15 = .ok (.return_, 1) := by decide +kernel
theorem dX5_copyFrom_0 : decode cX5_copyFrom 0 = .ok (.iconst 0, 1) := by decide +kernel
theorem dX5_copyFrom_1 : decode cX5_copyFrom 1 = .ok (.istore_n 2, 1) := by decide +kernel
theorem dX5_copyFrom_2 : decode cX5_copyFrom 2 = .ok (.iload_n 2, 1) := by decide +kernel
theorem dX5_copyFrom_3 : decode cX5_copyFrom 3 = .ok (.bipush 9, 2) := by decide +kernel
theorem dX5_copyFrom_5 : decode cX5_copyFrom 5 = .ok (.if_icmp .ge 21, 3) := by decide +kernel
theorem dX5_copyFrom_8 : decode cX5_copyFrom 8 = .ok (.aload_n 0, 1) := by decide +kernel
theorem dX5_copyFrom_9 : decode cX5_copyFrom 9 = .ok (.getfield 9, 3) := by decide +kernel
theorem dX5_copyFrom_12 : decode cX5_copyFrom 12 = .ok (.iload_n 2, 1) := by decide +kernel
theorem dX5_copyFrom_13 : decode cX5_copyFrom 13 = .ok (.aload_n 1, 1) := by decide +kernel
theorem dX5_copyFrom_14 : decode cX5_copyFrom 14 = .ok (.getfield 9, 3) := by decide +kernel
theorem dX5_copyFrom_17 : decode cX5_copyFrom 17 = .ok (.iload_n 2, 1) := by decide +kernel
theorem dX5_copyFrom_18 : decode cX5_copyFrom 18 = .ok (.iaload, 1) := by decide +kernel
theorem dX5_copyFrom_19 : decode cX5_copyFrom 19 = .ok (.iastore, 1) := by decide +kernel
theorem dX5_copyFrom_20 : decode cX5_copyFrom 20 = .ok (.iinc 2 1, 3) := by decide +kernel
theorem dX5_copyFrom_23 : decode cX5_copyFrom 23 = .ok (.goto (-21), 3) := by decide +kernel
theorem dX5_copyFrom_26 : decode cX5_copyFrom 26 = .ok (.aload_n 0, 1) := by decide +kernel
theorem dX5_copyFrom_27 : decode cX5_copyFrom 27 = .ok (.aload_n 1, 1) := by decide +kernel
theorem dX5_copyFrom_28 : decode cX5_copyFrom 28 = .ok (.getfield 15, 3) := by decide +kernel
theorem dX5_copyFrom_31 : decode cX5_copyFrom 31 = .ok (.putfield 15, 3) := by decide +kernel
theorem dX5_copyFrom_34 : decode cX5_copyFrom 34 = .ok (.aload_n 0, 1) := by decide +kernel
theorem dX5_copyFrom_35 : decode cX5_copyFrom 35 = .ok (.aload_n 1, 1) := by decide +kernel
theorem dX5_copyFrom_36 : decode cX5_copyFrom 36 = .ok (.getfield 19, 3) := by decide +kernel
theorem dX5_copyFrom_39 : decode cX5_copyFrom 39 = .ok (.putfield 19, 3) := by decide +kernel
theorem dX5_copyFrom_42 : decode cX5_copyFrom 42 = .ok (.aload_n 0, 1) := by decide +kernel
theorem dX5_copyFrom_43 : decode cX5_copyFrom 43 = .ok (.aload_n 1, 1) := by decide +kernel
theorem dX5_copyFrom_44 : decode cX5_copyFrom 44 = .ok (.getfield 22, 3) := by decide +kernel
theorem dX5_copyFrom_47 : decode cX5_copyFrom 47 = .ok (.putfield 22, 3) := by decide +kernel
theorem dX5_copyFrom_50 : decode cX5_copyFrom 50 = .ok (.return_, 1) := by decide +kernel
theorem dX5_isFull_0 : decode cX5_isFull 0 = .ok (.aload_n 0, 1) := by decide +kernel
theorem dX5_isFull_1 : decode cX5_isFull 1 = .ok (.getfield 15, 3) := by decide +kernel
theorem dX5_isFull_4 : decode cX5_isFull 4 = .ok (.bipush 9, 2) := by decide +kernel
theorem dX5_isFull_6 : decode cX5_isFull 6 = .ok (.if_icmp .lt 7, 3) := by decide +kernel
theorem dX5_isFull_9 : decode cX5_isFull 9 = .ok (.iconst 1, 1) := by decide +kernel
theorem dX5_isFull_10 : decode cX5_isFull 10 = .ok (.goto 4, 3) := by decide +kernel
theorem dX5_isFull_13 : decode cX5_isFull 13 = .ok (.iconst 0, 1) := by decide +kernel
theorem dX5_isFull_14 : decode cX5_isFull 14 = .ok (.ireturn, 1) := by decide +kernel
set_option maxRecDepth 20000 in
theorem ggX5_addLink_X5_isFull : GoodIn wsX5_addLink wsX5_isFull := goodIn_r _ [7, 2, 8, 9, 10, 11] (by decide +kernel) (by decide +kernel)
set_option maxRecDepth 20000 in
theorem gX5_addLink_X5_isFull : GoodIn wsX5_addLink (wsV RX5 25 RX5 yX5_isFull wsX5_isFull) := goodIn_app (goodIn_of _ (by decide +kernel)) ggX5_addLink_X5_isFull
theorem dX5_addLink_0 : decode cX5_addLink 0 = .ok (.aload_n 0, 1) := by decide +kernel
theorem dX5_addLink_1 : decode cX5_addLink 1 = .ok (.invokevirtual 25, 3) := by decide +kernel
theorem dX5_addLink_4 : decode cX5_addLink 4 = .ok (.ifCond .ne 23, 3) := by decide +kernel
theorem dX5_addLink_7 : decode cX5_addLink 7 = .ok (.aload_n 0, 1) := by decide +kernel
theorem dX5_addLink_8 : decode cX5_addLink 8 = .ok (.getfield 9, 3) := by decide +kernel
theorem dX5_addLink_11 : decode cX5_addLink 11 = .ok (.aload_n 0, 1) := by decide +kernel
theorem dX5_addLink_12 : decode cX5_addLink 12 = .ok (.getfield 15, 3) := by decide +kernel
theorem dX5_addLink_15 : decode cX5_addLink 15 = .ok (.iload_n 1, 1) := by decide +kernel
theorem dX5_addLink_16 : decode cX5_addLink 16 = .ok (.iastore, 1) := by decide +kernel
theorem dX5_addLink_17 : decode cX5_addLink 17 = .ok (.aload_n 0, 1) := by decide +kernel
theorem dX5_addLink_18 : decode cX5_addLink 18 = .ok (.dup, 1) := by decide +kernel
theorem dX5_addLink_19 : decode cX5_addLink 19 = .ok (.getfield 15, 3) := by decide +kernel
theorem dX5_addLink_22 : decode cX5_addLink 22 = .ok (.iconst 1, 1) := by decide +kernel
theorem dX5_addLink_23 : decode cX5_addLink 23 = .ok (.iadd, 1) := by decide +kernel
theorem dX5_addLink_24 : decode cX5_addLink 24 = .ok (.putfield 15, 3) := by decide +kernel
theorem dX5_addLink_27 : decode cX5_addLink 27 = .ok (.return_, 1) := by decide +kernel
theorem dX5_hasLink_0 : decode cX5_hasLink 0 = .ok (.iload_n 1, 1) := by decide +kernel
theorem dX5_hasLink_1 : decode cX5_hasLink 1 = .ok (.ifCond .lt 15, 3) := by decide +kernel
theorem dX5_hasLink_4 : decode cX5_hasLink 4 = .ok (.iload_n 1, 1) := by decide +kernel
