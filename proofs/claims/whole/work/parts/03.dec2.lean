theorem dX7_back_15 : decode cX7_back 15 = .ok (.iload_n 1, 1) := by decide +kernel
theorem dX7_back_16 : decode cX7_back 16 = .ok (.baload, 1) := by decide +kernel
theorem dX7_back_17 : decode cX7_back 17 = .ok (.ifCond .ne 6, 3) := by decide +kernel
theorem dX7_back_20 : decode cX7_back 20 = .ok (.bipush (-2), 2) := by decide +kernel
theorem dX7_back_22 : decode cX7_back 22 = .ok (.ireturn, 1) := by decide +kernel
theorem dX7_back_23 : decode cX7_back 23 = .ok (.aload_n 0, 1) := by decide +kernel
theorem dX7_back_24 : decode cX7_back 24 = .ok (.getfield 19, 3) := by decide +kernel
theorem dX7_back_27 : decode cX7_back 27 = .ok (.aload_n 0, 1) := by decide +kernel
theorem dX7_back_28 : decode cX7_back 28 = .ok (.getfield 26, 3) := by decide +kernel
theorem dX7_back_31 : decode cX7_back 31 = .ok (.iload_n 1, 1) := by decide +kernel
theorem dX7_back_32 : decode cX7_back 32 = .ok (.aaload, 1) := by decide +kernel
theorem dX7_back_33 : decode cX7_back 33 = .ok (.invokevirtual 92, 3) := by decide +kernel
theorem dX7_back_36 : decode cX7_back 36 = .ok (.aload_n 0, 1) := by decide +kernel
theorem dX7_back_37 : decode cX7_back 37 = .ok (.getfield 37, 3) := by decide +kernel
theorem dX7_back_40 : decode cX7_back 40 = .ok (.invokevirtual 96, 3) := by decide +kernel
theorem dX7_back_43 : decode cX7_back 43 = .ok (.aload_n 0, 1) := by decide +kernel
theorem dX7_back_44 : decode cX7_back 44 = .ok (.invokevirtual 138, 3) := by decide +kernel
theorem dX7_back_47 : decode cX7_back 47 = .ok (.ireturn, 1) := by decide +kernel
theorem dX7_count_0 : decode cX7_count 0 = .ok (.iload_n 1, 1) := by decide +kernel
theorem dX7_count_1 : decode cX7_count 1 = .ok (.tableswitch 63 0 3 #[31, 39, 47, 55], 31) := by decide +kernel
theorem dX7_count_32 : decode cX7_count 32 = .ok (.aload_n 0, 1) := by decide +kernel
theorem dX7_count_33 : decode cX7_count 33 = .ok (.getfield 19, 3) := by decide +kernel
theorem dX7_count_36 : decode cX7_count 36 = .ok (.getfield 131, 3) := by decide +kernel
theorem dX7_count_39 : decode cX7_count 39 = .ok (.ireturn, 1) := by decide +kernel
theorem dX7_count_40 : decode cX7_count 40 = .ok (.aload_n 0, 1) := by decide +kernel
theorem dX7_count_41 : decode cX7_count 41 = .ok (.getfield 19, 3) := by decide +kernel
theorem dX7_count_44 : decode cX7_count 44 = .ok (.getfield 128, 3) := by decide +kernel
theorem dX7_count_47 : decode cX7_count 47 = .ok (.ireturn, 1) := by decide +kernel
theorem dX7_count_48 : decode cX7_count 48 = .ok (.aload_n 0, 1) := by decide +kernel
theorem dX7_count_49 : decode cX7_count 49 = .ok (.getfield 58, 3) := by decide +kernel
theorem dX7_count_52 : decode cX7_count 52 = .ok (.getfield 213, 3) := by decide +kernel
theorem dX7_count_55 : decode cX7_count 55 = .ok (.ireturn, 1) := by decide +kernel
theorem dX7_count_56 : decode cX7_count 56 = .ok (.aload_n 0, 1) := by decide +kernel
theorem dX7_count_57 : decode cX7_count 57 = .ok (.getfield 10, 3) := by decide +kernel
theorem dX7_count_60 : decode cX7_count 60 = .ok (.getfield 81, 3) := by decide +kernel
theorem dX7_count_63 : decode cX7_count 63 = .ok (.ireturn, 1) := by decide +kernel
theorem dX7_count_64 : decode cX7_count 64 = .ok (.iconst (-1), 1) := by decide +kernel
theorem dX7_count_65 : decode cX7_count 65 = .ok (.ireturn, 1) := by decide +kernel
theorem dX7_trace_0 : decode cX7_trace 0 = .ok (.aload_n 0, 1) := by decide +kernel
theorem dX7_trace_1 : decode cX7_trace 1 = .ok (.getfield 65, 3) := by decide +kernel
theorem dX7_trace_4 : decode cX7_trace 4 = .ok (.getfield 227, 3) := by decide +kernel
theorem dX7_trace_7 : decode cX7_trace 7 = .ok (.lreturn, 1) := by decide +kernel
set_option maxRecDepth 20000 in
theorem ggX7_layNow_X2_layOut : GoodIn wsX7_layNow wsX2_layOut := goodIn_r _ [7, 8, 9, 10, 6, 11, 12, 13, 14, 15, 16, 17, 18, 19, 20, 21, 22, 23, 24, 25, 36, 37, 38, 39, 40, 41, 42, 43] (by decide +kernel) (by decide +kernel)
set_option maxRecDepth 20000 in
theorem gX7_layNow_X2_layOut : GoodIn wsX7_layNow (wsV RX7 231 RX2 yX2_layOut wsX2_layOut) := goodIn_app (goodIn_of _ (by decide +kernel)) ggX7_layNow_X2_layOut
theorem dX7_layNow_0 : decode cX7_layNow 0 = .ok (.aload_n 0, 1) := by decide +kernel
theorem dX7_layNow_1 : decode cX7_layNow 1 = .ok (.getfield 44, 3) := by decide +kernel
theorem dX7_layNow_4 : decode cX7_layNow 4 = .ok (.aload_n 0, 1) := by decide +kernel
theorem dX7_layNow_5 : decode cX7_layNow 5 = .ok (.getfield 19, 3) := by decide +kernel
theorem dX7_layNow_8 : decode cX7_layNow 8 = .ok (.aload_n 0, 1) := by decide +kernel
theorem dX7_layNow_9 : decode cX7_layNow 9 = .ok (.getfield 19, 3) := by decide +kernel
theorem dX7_layNow_12 : decode cX7_layNow 12 = .ok (.getfield 121, 3) := by decide +kernel
theorem dX7_layNow_15 : decode cX7_layNow 15 = .ok (.invokevirtual 231, 3) := by decide +kernel
theorem dX7_layNow_18 : decode cX7_layNow 18 = .ok (.aload_n 0, 1) := by decide +kernel
theorem dX7_layNow_19 : decode cX7_layNow 19 = .ok (.getfield 44, 3) := by decide +kernel
theorem dX7_layNow_22 : decode cX7_layNow 22 = .ok (.areturn, 1) := by decide +kernel
set_option maxRecDepth 20000 in
theorem ggX7_spanNow_X7_layNow : GoodIn wsX7_spanNow wsX7_layNow := goodIn_r _ [5, 6, 7, 8, 9, 10, 11, 12, 13, 14, 15, 16, 17, 18, 19, 20, 21, 22, 23, 24, 25, 26, 27, 28, 4, 29, 34, 35, 36, 37, 38, 39, 40, 41, 42, 43, 44, 45, 46, 47, 48, 49, 50, 51] (by decide +kernel) (by decide +kernel)
set_option maxRecDepth 20000 in
theorem gX7_spanNow_X7_layNow : GoodIn wsX7_spanNow (wsV RX7 111 RX7 yX7_layNow wsX7_layNow) := goodIn_app (goodIn_of _ (by decide +kernel)) ggX7_spanNow_X7_layNow
set_option maxRecDepth 20000 in
theorem ggX7_spanNow_X2_span : GoodIn wsX7_spanNow wsX2_span := goodIn_r _ [33, 23, 22, 48, 49, 50, 51] (by decide +kernel) (by decide +kernel)
set_option maxRecDepth 20000 in
theorem gX7_spanNow_X2_span : GoodIn wsX7_spanNow (wsV RX7 235 RX2 yX2_span wsX2_span) := goodIn_app (goodIn_of _ (by decide +kernel)) ggX7_spanNow_X2_span
theorem dX7_spanNow_0 : decode cX7_spanNow 0 = .ok (.aload_n 0, 1) := by decide +kernel
theorem dX7_spanNow_1 : decode cX7_spanNow 1 = .ok (.invokevirtual 111, 3) := by decide +kernel
theorem dX7_spanNow_4 : decode cX7_spanNow 4 = .ok (.invokevirtual 235, 3) := by decide +kernel
theorem dX7_spanNow_7 : decode cX7_spanNow 7 = .ok (.ireturn, 1) := by decide +kernel
set_option maxRecDepth 20000 in
theorem ggX7_bentBy_J6_bitCount_0f7a4 : GoodIn wsX7_bentBy wsJ6_bitCount_0f7a4 := goodIn_r _ [5, 6, 7, 8] (by decide +kernel) (by decide +kernel)
set_option maxRecDepth 20000 in
theorem gX7_bentBy_J6_bitCount_0f7a4 : GoodIn wsX7_bentBy (va_wsS RX7 238 yJ6_bitCount_0f7a4 wsJ6_bitCount_0f7a4) := goodIn_app (goodIn_of _ (by decide +kernel)) ggX7_bentBy_J6_bitCount_0f7a4
theorem dX7_bentBy_0 : decode cX7_bentBy 0 = .ok (.iload_n 1, 1) := by decide +kernel
theorem dX7_bentBy_1 : decode cX7_bentBy 1 = .ok (.bipush (-9), 2) := by decide +kernel
theorem dX7_bentBy_3 : decode cX7_bentBy 3 = .ok (.if_icmp .ne 8, 3) := by decide +kernel
theorem dX7_bentBy_6 : decode cX7_bentBy 6 = .ok (.bipush (-9), 2) := by decide +kernel
theorem dX7_bentBy_8 : decode cX7_bentBy 8 = .ok (.goto 15, 3) := by decide +kernel
theorem dX7_bentBy_11 : decode cX7_bentBy 11 = .ok (.iload_n 1, 1) := by decide +kernel
theorem dX7_bentBy_12 : decode cX7_bentBy 12 = .ok (.aload_n 0, 1) := by decide +kernel
theorem dX7_bentBy_13 : decode cX7_bentBy 13 = .ok (.getfield 19, 3) := by decide +kernel
theorem dX7_bentBy_16 : decode cX7_bentBy 16 = .ok (.getfield 121, 3) := by decide +kernel
theorem dX7_bentBy_19 : decode cX7_bentBy 19 = .ok (.ixor, 1) := by decide +kernel
theorem dX7_bentBy_20 : decode cX7_bentBy 20 = .ok (.invokestatic 238, 3) := by decide +kernel
theorem dX7_bentBy_23 : decode cX7_bentBy 23 = .ok (.ireturn, 1) := by decide +kernel
theorem dX7_isWithin_0 : decode cX7_isWithin 0 = .ok (.iload_n 0, 1) := by decide +kernel
theorem dX7_isWithin_1 : decode cX7_isWithin 1 = .ok (.iload_n 1, 1) := by decide +kernel
theorem dX7_isWithin_2 : decode cX7_isWithin 2 = .ok (.if_icmp .lt 12, 3) := by decide +kernel
theorem dX7_isWithin_5 : decode cX7_isWithin 5 = .ok (.iload_n 0, 1) := by decide +kernel
theorem dX7_isWithin_6 : decode cX7_isWithin 6 = .ok (.iload_n 2, 1) := by decide +kernel
theorem dX7_isWithin_7 : decode cX7_isWithin 7 = .ok (.if_icmp .gt 7, 3) := by decide +kernel
theorem dX7_isWithin_10 : decode cX7_isWithin 10 = .ok (.iconst 1, 1) := by decide +kernel
theorem dX7_isWithin_11 : decode cX7_isWithin 11 = .ok (.goto 4, 3) := by decide +kernel
theorem dX7_isWithin_14 : decode cX7_isWithin 14 = .ok (.iconst 0, 1) := by decide +kernel
theorem dX7_isWithin_15 : decode cX7_isWithin 15 = .ok (.ireturn, 1) := by decide +kernel
theorem dX7_hasBit_0 : decode cX7_hasBit 0 = .ok (.iload_n 0, 1) := by decide +kernel
theorem dX7_hasBit_1 : decode cX7_hasBit 1 = .ok (.iload_n 1, 1) := by decide +kernel
theorem dX7_hasBit_2 : decode cX7_hasBit 2 = .ok (.ishr, 1) := by decide +kernel
theorem dX7_hasBit_3 : decode cX7_hasBit 3 = .ok (.iconst 1, 1) := by decide +kernel
theorem dX7_hasBit_4 : decode cX7_hasBit 4 = .ok (.iand, 1) := by decide +kernel
theorem dX7_hasBit_5 : decode cX7_hasBit 5 = .ok (.iconst 1, 1) := by decide +kernel
theorem dX7_hasBit_6 : decode cX7_hasBit 6 = .ok (.if_icmp .ne 7, 3) := by decide +kernel
theorem dX7_hasBit_9 : decode cX7_hasBit 9 = .ok (.iconst 1, 1) := by decide +kernel
theorem dX7_hasBit_10 : decode cX7_hasBit 10 = .ok (.goto 4, 3) := by decide +kernel
theorem dX7_hasBit_13 : decode cX7_hasBit 13 = .ok (.iconst 0, 1) := by decide +kernel
theorem dX7_hasBit_14 : decode cX7_hasBit 14 = .ok (.ireturn, 1) := by decide +kernel
theorem dX7_power_0 : decode cX7_power 0 = .ok (.iconst 1, 1) := by decide +kernel
theorem dX7_power_1 : decode cX7_power 1 = .ok (.istore_n 2, 1) := by decide +kernel
theorem dX7_power_2 : decode cX7_power 2 = .ok (.iconst 0, 1) := by decide +kernel
theorem dX7_power_3 : decode cX7_power 3 = .ok (.istore_n 3, 1) := by decide +kernel
theorem dX7_power_4 : decode cX7_power 4 = .ok (.iload_n 3, 1) := by decide +kernel
theorem dX7_power_5 : decode cX7_power 5 = .ok (.iload_n 1, 1) := by decide +kernel
theorem dX7_power_6 : decode cX7_power 6 = .ok (.if_icmp .ge 13, 3) := by decide +kernel
theorem dX7_power_9 : decode cX7_power 9 = .ok (.iload_n 2, 1) := by decide +kernel
theorem dX7_power_10 : decode cX7_power 10 = .ok (.iload_n 0, 1) := by decide +kernel
theorem dX7_power_11 : decode cX7_power 11 = .ok (.imul, 1) := by decide +kernel
theorem dX7_power_12 : decode cX7_power 12 = .ok (.istore_n 2, 1) := by decide +kernel
theorem dX7_power_13 : decode cX7_power 13 = .ok (.iinc 3 1, 3) := by decide +kernel
theorem dX7_power_16 : decode cX7_power 16 = .ok (.goto (-12), 3) := by decide +kernel
theorem dX7_power_19 : decode cX7_power 19 = .ok (.iload_n 2, 1) := by decide +kernel
theorem dX7_power_20 : decode cX7_power 20 = .ok (.ireturn, 1) := by decide +kernel
theorem dX7_commonDivisor_0 : decode cX7_commonDivisor 0 = .ok (.iload_n 0, 1) := by decide +kernel
theorem dX7_commonDivisor_1 : decode cX7_commonDivisor 1 = .ok (.istore_n 2, 1) := by decide +kernel
theorem dX7_commonDivisor_2 : decode cX7_commonDivisor 2 = .ok (.iload_n 1, 1) := by decide +kernel
theorem dX7_commonDivisor_3 : decode cX7_commonDivisor 3 = .ok (.istore_n 3, 1) := by decide +kernel
theorem dX7_commonDivisor_4 : decode cX7_commonDivisor 4 = .ok (.iconst 0, 1) := by decide +kernel
theorem dX7_commonDivisor_5 : decode cX7_commonDivisor 5 = .ok (.istore 4, 2) := by decide +kernel
theorem dX7_commonDivisor_7 : decode cX7_commonDivisor 7 = .ok (.iload 4, 2) := by decide +kernel
theorem dX7_commonDivisor_9 : decode cX7_commonDivisor 9 = .ok (.bipush 64, 2) := by decide +kernel
theorem dX7_commonDivisor_11 : decode cX7_commonDivisor 11 = .ok (.if_icmp .ge 23, 3) := by decide +kernel
theorem dX7_commonDivisor_14 : decode cX7_commonDivisor 14 = .ok (.iload_n 3, 1) := by decide +kernel
theorem dX7_commonDivisor_15 : decode cX7_commonDivisor 15 = .ok (.ifCond .eq 19, 3) := by decide +kernel
theorem dX7_commonDivisor_18 : decode cX7_commonDivisor 18 = .ok (.iload_n 2, 1) := by decide +kernel
theorem dX7_commonDivisor_19 : decode cX7_commonDivisor 19 = .ok (.iload_n 3, 1) := by decide +kernel
theorem dX7_commonDivisor_20 : decode cX7_commonDivisor 20 = .ok (.irem, 1) := by decide +kernel
theorem dX7_commonDivisor_21 : decode cX7_commonDivisor 21 = .ok (.istore 5, 2) := by decide +kernel
theorem dX7_commonDivisor_23 : decode cX7_commonDivisor 23 = .ok (.iload_n 3, 1) := by decide +kernel
theorem dX7_commonDivisor_24 : decode cX7_commonDivisor 24 = .ok (.istore_n 2, 1) := by decide +kernel
theorem dX7_commonDivisor_25 : decode cX7_commonDivisor 25 = .ok (.iload 5, 2) := by decide +kernel
theorem dX7_commonDivisor_27 : decode cX7_commonDivisor 27 = .ok (.istore_n 3, 1) := by decide +kernel
theorem dX7_commonDivisor_28 : decode cX7_commonDivisor 28 = .ok (.iinc 4 1, 3) := by decide +kernel
theorem dX7_commonDivisor_31 : decode cX7_commonDivisor 31 = .ok (.goto (-24), 3) := by decide +kernel
theorem dX7_commonDivisor_34 : decode cX7_commonDivisor 34 = .ok (.iload_n 2, 1) := by decide +kernel
theorem dX7_commonDivisor_35 : decode cX7_commonDivisor 35 = .ok (.iconst 1, 1) := by decide +kernel
theorem dX7_commonDivisor_36 : decode cX7_commonDivisor 36 = .ok (.invokestatic 243, 3) := by decide +kernel
theorem dX7_commonDivisor_39 : decode cX7_commonDivisor 39 = .ok (.ireturn, 1) := by decide +kernel
theorem dX8_init_0 : decode cX8_init 0 = .ok (.aload_n 0, 1) := by decide +kernel
theorem dX8_init_1 : decode cX8_init 1 = .ok (.invokespecial 1, 3) := by decide +kernel
theorem dX8_init_4 : decode cX8_init 4 = .ok (.aload_n 0, 1) := by decide +kernel
theorem dX8_init_5 : decode cX8_init 5 = .ok (.sipush 143, 3) := by decide +kernel
theorem dX8_init_8 : decode cX8_init 8 = .ok (.newarray .int, 2) := by decide +kernel
theorem dX8_init_10 : decode cX8_init 10 = .ok (.putfield 7, 3) := by decide +kernel
theorem dX8_init_13 : decode cX8_init 13 = .ok (.aload_n 0, 1) := by decide +kernel
theorem dX8_init_14 : decode cX8_init 14 = .ok (.iconst 2, 1) := by decide +kernel
theorem dX8_init_15 : decode cX8_init 15 = .ok (.newarray .boolean, 2) := by decide +kernel
theorem dX8_init_17 : decode cX8_init 17 = .ok (.putfield 13, 3) := by decide +kernel
theorem dX8_init_20 : decode cX8_init 20 = .ok (.aload_n 0, 1) := by decide +kernel
theorem dX8_init_21 : decode cX8_init 21 = .ok (.bipush 90, 2) := by decide +kernel
theorem dX8_init_23 : decode cX8_init 23 = .ok (.newarray .int, 2) := by decide +kernel
theorem dX8_init_25 : decode cX8_init 25 = .ok (.putfield 17, 3) := by decide +kernel
theorem dX8_init_28 : decode cX8_init 28 = .ok (.aload_n 0, 1) := by decide +kernel
theorem dX8_init_29 : decode cX8_init 29 = .ok (.bipush 6, 2) := by decide +kernel
theorem dX8_init_31 : decode cX8_init 31 = .ok (.newarray .int, 2) := by decide +kernel
theorem dX8_init_33 : decode cX8_init 33 = .ok (.putfield 20, 3) := by decide +kernel
theorem dX8_init_36 : decode cX8_init 36 = .ok (.aload_n 0, 1) := by decide +kernel
theorem dX8_init_37 : decode cX8_init 37 = .ok (.bipush 6, 2) := by decide +kernel
theorem dX8_init_39 : decode cX8_init 39 = .ok (.newarray .int, 2) := by decide +kernel
theorem dX8_init_41 : decode cX8_init 41 = .ok (.putfield 23, 3) := by decide +kernel
theorem dX8_init_44 : decode cX8_init 44 = .ok (.aload_n 0, 1) := by decide +kernel
theorem dX8_init_45 : decode cX8_init 45 = .ok (.bipush 9, 2) := by decide +kernel
theorem dX8_init_47 : decode cX8_init 47 = .ok (.newarray .int, 2) := by decide +kernel
theorem dX8_init_49 : decode cX8_init 49 = .ok (.putfield 26, 3) := by decide +kernel
theorem dX8_init_52 : decode cX8_init 52 = .ok (.aload_n 0, 1) := by decide +kernel
theorem dX8_init_53 : decode cX8_init 53 = .ok (.bipush 10, 2) := by decide +kernel
theorem dX8_init_55 : decode cX8_init 55 = .ok (.newarray .int, 2) := by decide +kernel
theorem dX8_init_57 : decode cX8_init 57 = .ok (.putfield 29, 3) := by decide +kernel
theorem dX8_init_60 : decode cX8_init 60 = .ok (.aload_n 0, 1) := by decide +kernel
theorem dX8_init_61 : decode cX8_init 61 = .ok (.sipush 182, 3) := by decide +kernel
theorem dX8_init_64 : decode cX8_init 64 = .ok (.newarray .boolean, 2) := by decide +kernel
theorem dX8_init_66 : decode cX8_init 66 = .ok (.putfield 32, 3) := by decide +kernel
theorem dX8_init_69 : decode cX8_init 69 = .ok (.aload_n 0, 1) := by decide +kernel
theorem dX8_init_70 : decode cX8_init 70 = .ok (.bipush 81, 2) := by decide +kernel
theorem dX8_init_72 : decode cX8_init 72 = .ok (.newarray .int, 2) := by decide +kernel
theorem dX8_init_74 : decode cX8_init 74 = .ok (.putfield 35, 3) := by decide +kernel
theorem dX8_init_77 : decode cX8_init 77 = .ok (.aload_n 0, 1) := by decide +kernel
theorem dX8_init_78 : decode cX8_init 78 = .ok (.sipush 181, 3) := by decide +kernel
theorem dX8_init_81 : decode cX8_init 81 = .ok (.newarray .int, 2) := by decide +kernel
theorem dX8_init_83 : decode cX8_init 83 = .ok (.putfield 38, 3) := by decide +kernel
theorem dX8_init_86 : decode cX8_init 86 = .ok (.return_, 1) := by decide +kernel
theorem dX8_in_0 : decode cX8_in 0 = .ok (.iload_n 0, 1) := by decide +kernel
theorem dX8_in_1 : decode cX8_in 1 = .ok (.iload_n 1, 1) := by decide +kernel
theorem dX8_in_2 : decode cX8_in 2 = .ok (.if_icmp .lt 12, 3) := by decide +kernel
theorem dX8_in_5 : decode cX8_in 5 = .ok (.iload_n 0, 1) := by decide +kernel
theorem dX8_in_6 : decode cX8_in 6 = .ok (.iload_n 2, 1) := by decide +kernel
theorem dX8_in_7 : decode cX8_in 7 = .ok (.if_icmp .gt 7, 3) := by decide +kernel
theorem dX8_in_10 : decode cX8_in 10 = .ok (.iconst 1, 1) := by decide +kernel
theorem dX8_in_11 : decode cX8_in 11 = .ok (.goto 4, 3) := by decide +kernel
theorem dX8_in_14 : decode cX8_in 14 = .ok (.iconst 0, 1) := by decide +kernel
theorem dX8_in_15 : decode cX8_in 15 = .ok (.ireturn, 1) := by decide +kernel
theorem dX8_has_0 : decode cX8_has 0 = .ok (.iload_n 0, 1) := by decide +kernel
theorem dX8_has_1 : decode cX8_has 1 = .ok (.iload_n 1, 1) := by decide +kernel
theorem dX8_has_2 : decode cX8_has 2 = .ok (.ishr, 1) := by decide +kernel
theorem dX8_has_3 : decode cX8_has 3 = .ok (.iconst 1, 1) := by decide +kernel
theorem dX8_has_4 : decode cX8_has 4 = .ok (.iand, 1) := by decide +kernel
theorem dX8_has_5 : decode cX8_has 5 = .ok (.iconst 1, 1) := by decide +kernel
theorem dX8_has_6 : decode cX8_has 6 = .ok (.if_icmp .ne 7, 3) := by decide +kernel
theorem dX8_has_9 : decode cX8_has 9 = .ok (.iconst 1, 1) := by decide +kernel
theorem dX8_has_10 : decode cX8_has 10 = .ok (.goto 4, 3) := by decide +kernel
theorem dX8_has_13 : decode cX8_has 13 = .ok (.iconst 0, 1) := by decide +kernel
theorem dX8_has_14 : decode cX8_has 14 = .ok (.ireturn, 1) := by decide +kernel
theorem dX8_bits_0 : decode cX8_bits 0 = .ok (.iconst 0, 1) := by decide +kernel
theorem dX8_bits_1 : decode cX8_bits 1 = .ok (.istore_n 1, 1) := by decide +kernel
theorem dX8_bits_2 : decode cX8_bits 2 = .ok (.iconst 0, 1) := by decide +kernel
theorem dX8_bits_3 : decode cX8_bits 3 = .ok (.istore_n 2, 1) := by decide +kernel
theorem dX8_bits_4 : decode cX8_bits 4 = .ok (.iload_n 2, 1) := by decide +kernel
theorem dX8_bits_5 : decode cX8_bits 5 = .ok (.bipush 9, 2) := by decide +kernel
theorem dX8_bits_7 : decode cX8_bits 7 = .ok (.if_icmp .ge 17, 3) := by decide +kernel
theorem dX8_bits_10 : decode cX8_bits 10 = .ok (.iload_n 1, 1) := by decide +kernel
theorem dX8_bits_11 : decode cX8_bits 11 = .ok (.iload_n 0, 1) := by decide +kernel
theorem dX8_bits_12 : decode cX8_bits 12 = .ok (.iload_n 2, 1) := by decide +kernel
theorem dX8_bits_13 : decode cX8_bits 13 = .ok (.ishr, 1) := by decide +kernel
theorem dX8_bits_14 : decode cX8_bits 14 = .ok (.iconst 1, 1) := by decide +kernel
theorem dX8_bits_15 : decode cX8_bits 15 = .ok (.iand, 1) := by decide +kernel
theorem dX8_bits_16 : decode cX8_bits 16 = .ok (.iadd, 1) := by decide +kernel
theorem dX8_bits_17 : decode cX8_bits 17 = .ok (.istore_n 1, 1) := by decide +kernel
theorem dX8_bits_18 : decode cX8_bits 18 = .ok (.iinc 2 1, 3) := by decide +kernel
theorem dX8_bits_21 : decode cX8_bits 21 = .ok (.goto (-17), 3) := by decide +kernel
theorem dX8_bits_24 : decode cX8_bits 24 = .ok (.iload_n 1, 1) := by decide +kernel
theorem dX8_bits_25 : decode cX8_bits 25 = .ok (.ireturn, 1) := by decide +kernel
theorem dX8_copyRow_0 : decode cX8_copyRow 0 = .ok (.iconst 0, 1) := by decide +kernel
theorem dX8_copyRow_1 : decode cX8_copyRow 1 = .ok (.istore_n 3, 1) := by decide +kernel
theorem dX8_copyRow_2 : decode cX8_copyRow 2 = .ok (.iload_n 3, 1) := by decide +kernel
theorem dX8_copyRow_3 : decode cX8_copyRow 3 = .ok (.bipush 11, 2) := by decide +kernel
theorem dX8_copyRow_5 : decode cX8_copyRow 5 = .ok (.if_icmp .ge 25, 3) := by decide +kernel
theorem dX8_copyRow_8 : decode cX8_copyRow 8 = .ok (.aload_n 0, 1) := by decide +kernel
theorem dX8_copyRow_9 : decode cX8_copyRow 9 = .ok (.getfield 7, 3) := by decide +kernel
theorem dX8_copyRow_12 : decode cX8_copyRow 12 = .ok (.iload_n 2, 1) := by decide +kernel
theorem dX8_copyRow_13 : decode cX8_copyRow 13 = .ok (.iload_n 3, 1) := by decide +kernel
theorem dX8_copyRow_14 : decode cX8_copyRow 14 = .ok (.iadd, 1) := by decide +kernel
theorem dX8_copyRow_15 : decode cX8_copyRow 15 = .ok (.aload_n 0, 1) := by decide +kernel
theorem dX8_copyRow_16 : decode cX8_copyRow 16 = .ok (.getfield 7, 3) := by decide +kernel
theorem dX8_copyRow_19 : decode cX8_copyRow 19 = .ok (.iload_n 1, 1) := by decide +kernel
theorem dX8_copyRow_20 : decode cX8_copyRow 20 = .ok (.iload_n 3, 1) := by decide +kernel
theorem dX8_copyRow_21 : decode cX8_copyRow 21 = .ok (.iadd, 1) := by decide +kernel
theorem dX8_copyRow_22 : decode cX8_copyRow 22 = .ok (.iaload, 1) := by decide +kernel
theorem dX8_copyRow_23 : decode cX8_copyRow 23 = .ok (.iastore, 1) := by decide +kernel
theorem dX8_copyRow_24 : decode cX8_copyRow 24 = .ok (.iinc 3 1, 3) := by decide +kernel
theorem dX8_copyRow_27 : decode cX8_copyRow 27 = .ok (.goto (-25), 3) := by decide +kernel
theorem dX8_copyRow_30 : decode cX8_copyRow 30 = .ok (.return_, 1) := by decide +kernel
set_option maxRecDepth 20000 in
theorem ggX8_isLink_X8_in : GoodIn wsX8_isLink wsX8_in := goodIn_r _ [5] (by decide +kernel) (by decide +kernel)
set_option maxRecDepth 20000 in
theorem gX8_isLink_X8_in : GoodIn wsX8_isLink (va_wsS RX8 45 yX8_in wsX8_in) := goodIn_app (goodIn_of _ (by decide +kernel)) ggX8_isLink_X8_in
theorem dX8_isLink_0 : decode cX8_isLink 0 = .ok (.iload_n 1, 1) := by decide +kernel
theorem dX8_isLink_1 : decode cX8_isLink 1 = .ok (.iconst 0, 1) := by decide +kernel
theorem dX8_isLink_2 : decode cX8_isLink 2 = .ok (.aload_n 0, 1) := by decide +kernel
theorem dX8_isLink_3 : decode cX8_isLink 3 = .ok (.getfield 41, 3) := by decide +kernel
theorem dX8_isLink_6 : decode cX8_isLink 6 = .ok (.iconst 1, 1) := by decide +kernel
theorem dX8_isLink_7 : decode cX8_isLink 7 = .ok (.isub, 1) := by decide +kernel
theorem dX8_isLink_8 : decode cX8_isLink 8 = .ok (.invokestatic 45, 3) := by decide +kernel
theorem dX8_isLink_11 : decode cX8_isLink 11 = .ok (.ireturn, 1) := by decide +kernel
set_option maxRecDepth 20000 in
theorem ggX8_isJoint_X8_in : GoodIn wsX8_isJoint wsX8_in := goodIn_r _ [5] (by decide +kernel) (by decide +kernel)
set_option maxRecDepth 20000 in
theorem gX8_isJoint_X8_in : GoodIn wsX8_isJoint (va_wsS RX8 45 yX8_in wsX8_in) := goodIn_app (goodIn_of _ (by decide +kernel)) ggX8_isJoint_X8_in
theorem dX8_isJoint_0 : decode cX8_isJoint 0 = .ok (.iload_n 1, 1) := by decide +kernel
theorem dX8_isJoint_1 : decode cX8_isJoint 1 = .ok (.iconst 0, 1) := by decide +kernel
theorem dX8_isJoint_2 : decode cX8_isJoint 2 = .ok (.aload_n 0, 1) := by decide +kernel
theorem dX8_isJoint_3 : decode cX8_isJoint 3 = .ok (.getfield 41, 3) := by decide +kernel
theorem dX8_isJoint_6 : decode cX8_isJoint 6 = .ok (.iconst 2, 1) := by decide +kernel
theorem dX8_isJoint_7 : decode cX8_isJoint 7 = .ok (.isub, 1) := by decide +kernel
theorem dX8_isJoint_8 : decode cX8_isJoint 8 = .ok (.invokestatic 45, 3) := by decide +kernel
theorem dX8_isJoint_11 : decode cX8_isJoint 11 = .ok (.ireturn, 1) := by decide +kernel
set_option maxRecDepth 20000 in
theorem ggX8_type_X8_in : GoodIn wsX8_type wsX8_in := goodIn_r _ [6] (by decide +kernel) (by decide +kernel)
set_option maxRecDepth 20000 in
theorem gX8_type_X8_in : GoodIn wsX8_type (va_wsS RX8 45 yX8_in wsX8_in) := goodIn_app (goodIn_of _ (by decide +kernel)) ggX8_type_X8_in
theorem dX8_type_0 : decode cX8_type 0 = .ok (.iload_n 1, 1) := by decide +kernel
theorem dX8_type_1 : decode cX8_type 1 = .ok (.iconst 0, 1) := by decide +kernel
theorem dX8_type_2 : decode cX8_type 2 = .ok (.sipush 255, 3) := by decide +kernel
theorem dX8_type_5 : decode cX8_type 5 = .ok (.invokestatic 45, 3) := by decide +kernel
theorem dX8_type_8 : decode cX8_type 8 = .ok (.ifCond .ne 5, 3) := by decide +kernel
theorem dX8_type_11 : decode cX8_type 11 = .ok (.iconst (-1), 1) := by decide +kernel
theorem dX8_type_12 : decode cX8_type 12 = .ok (.ireturn, 1) := by decide +kernel
theorem dX8_type_13 : decode cX8_type 13 = .ok (.aload_n 0, 1) := by decide +kernel
theorem dX8_type_14 : decode cX8_type 14 = .ok (.getfield 49, 3) := by decide +kernel
theorem dX8_type_17 : decode cX8_type 17 = .ok (.bipush 90, 2) := by decide +kernel
theorem dX8_type_19 : decode cX8_type 19 = .ok (.if_icmp .ne 6, 3) := by decide +kernel
theorem dX8_type_22 : decode cX8_type 22 = .ok (.bipush (-3), 2) := by decide +kernel
theorem dX8_type_24 : decode cX8_type 24 = .ok (.ireturn, 1) := by decide +kernel
theorem dX8_type_25 : decode cX8_type 25 = .ok (.aload_n 0, 1) := by decide +kernel
theorem dX8_type_26 : decode cX8_type 26 = .ok (.getfield 17, 3) := by decide +kernel
theorem dX8_type_29 : decode cX8_type 29 = .ok (.aload_n 0, 1) := by decide +kernel
theorem dX8_type_30 : decode cX8_type 30 = .ok (.getfield 49, 3) := by decide +kernel
theorem dX8_type_33 : decode cX8_type 33 = .ok (.iload_n 1, 1) := by decide +kernel
theorem dX8_type_34 : decode cX8_type 34 = .ok (.iastore, 1) := by decide +kernel
theorem dX8_type_35 : decode cX8_type 35 = .ok (.aload_n 0, 1) := by decide +kernel
theorem dX8_type_36 : decode cX8_type 36 = .ok (.dup, 1) := by decide +kernel
theorem dX8_type_37 : decode cX8_type 37 = .ok (.getfield 49, 3) := by decide +kernel
theorem dX8_type_40 : decode cX8_type 40 = .ok (.iconst 1, 1) := by decide +kernel
theorem dX8_type_41 : decode cX8_type 41 = .ok (.iadd, 1) := by decide +kernel
theorem dX8_type_42 : decode cX8_type 42 = .ok (.putfield 49, 3) := by decide +kernel
theorem dX8_type_45 : decode cX8_type 45 = .ok (.aload_n 0, 1) := by decide +kernel
theorem dX8_type_46 : decode cX8_type 46 = .ok (.getfield 49, 3) := by decide +kernel
theorem dX8_type_49 : decode cX8_type 49 = .ok (.ireturn, 1) := by decide +kernel
theorem dX8_clear_0 : decode cX8_clear 0 = .ok (.aload_n 0, 1) := by decide +kernel
theorem dX8_clear_1 : decode cX8_clear 1 = .ok (.getfield 49, 3) := by decide +kernel
theorem dX8_clear_4 : decode cX8_clear 4 = .ok (.istore_n 1, 1) := by decide +kernel
theorem dX8_clear_5 : decode cX8_clear 5 = .ok (.aload_n 0, 1) := by decide +kernel
theorem dX8_clear_6 : decode cX8_clear 6 = .ok (.iconst 0, 1) := by decide +kernel
theorem dX8_clear_7 : decode cX8_clear 7 = .ok (.putfield 49, 3) := by decide +kernel
theorem dX8_clear_10 : decode cX8_clear 10 = .ok (.iload_n 1, 1) := by decide +kernel
theorem dX8_clear_11 : decode cX8_clear 11 = .ok (.ireturn, 1) := by decide +kernel
set_option maxRecDepth 20000 in
theorem ggX8_isFigure_X8_in : GoodIn wsX8_isFigure wsX8_in := goodIn_r _ [6] (by decide +kernel) (by decide +kernel)
set_option maxRecDepth 20000 in
theorem gX8_isFigure_X8_in : GoodIn wsX8_isFigure (va_wsS RX8 45 yX8_in wsX8_in) := goodIn_app (goodIn_of _ (by decide +kernel)) ggX8_isFigure_X8_in
theorem dX8_isFigure_0 : decode cX8_isFigure 0 = .ok (.iload_n 1, 1) := by decide +kernel
theorem dX8_isFigure_1 : decode cX8_isFigure 1 = .ok (.aload_n 0, 1) := by decide +kernel
theorem dX8_isFigure_2 : decode cX8_isFigure 2 = .ok (.getfield 49, 3) := by decide +kernel
theorem dX8_isFigure_5 : decode cX8_isFigure 5 = .ok (.if_icmp .ge 23, 3) := by decide +kernel
theorem dX8_isFigure_8 : decode cX8_isFigure 8 = .ok (.aload_n 0, 1) := by decide +kernel
theorem dX8_isFigure_9 : decode cX8_isFigure 9 = .ok (.getfield 17, 3) := by decide +kernel
theorem dX8_isFigure_12 : decode cX8_isFigure 12 = .ok (.iload_n 1, 1) := by decide +kernel
theorem dX8_isFigure_13 : decode cX8_isFigure 13 = .ok (.iaload, 1) := by decide +kernel
theorem dX8_isFigure_14 : decode cX8_isFigure 14 = .ok (.bipush 48, 2) := by decide +kernel
theorem dX8_isFigure_16 : decode cX8_isFigure 16 = .ok (.bipush 57, 2) := by decide +kernel
theorem dX8_isFigure_18 : decode cX8_isFigure 18 = .ok (.invokestatic 45, 3) := by decide +kernel
theorem dX8_isFigure_21 : decode cX8_isFigure 21 = .ok (.ifCond .eq 7, 3) := by decide +kernel
theorem dX8_isFigure_24 : decode cX8_isFigure 24 = .ok (.iconst 1, 1) := by decide +kernel
theorem dX8_isFigure_25 : decode cX8_isFigure 25 = .ok (.goto 4, 3) := by decide +kernel
theorem dX8_isFigure_28 : decode cX8_isFigure 28 = .ok (.iconst 0, 1) := by decide +kernel
theorem dX8_isFigure_29 : decode cX8_isFigure 29 = .ok (.ireturn, 1) := by decide +kernel
set_option maxRecDepth 20000 in
theorem ggX8_nextToken_X8_isFigure : GoodIn wsX8_nextToken wsX8_isFigure := goodIn_r _ [9, 3, 4, 10, 11, 8, 12, 13, 14, 15, 16, 17, 18, 19, 20, 21, 22, 23, 24, 25, 26, 27, 28, 29, 30, 31, 32, 33, 34] (by decide +kernel) (by decide +kernel)
set_option maxRecDepth 20000 in
theorem gX8_nextToken_X8_isFigure : GoodIn wsX8_nextToken (wsV RX8 58 RX8 yX8_isFigure wsX8_isFigure) := goodIn_app (goodIn_of _ (by decide +kernel)) ggX8_nextToken_X8_isFigure
theorem dX8_nextToken_0 : decode cX8_nextToken 0 = .ok (.aload_n 0, 1) := by decide +kernel
theorem dX8_nextToken_1 : decode cX8_nextToken 1 = .ok (.aload_n 0, 1) := by decide +kernel
theorem dX8_nextToken_2 : decode cX8_nextToken 2 = .ok (.getfield 52, 3) := by decide +kernel
theorem dX8_nextToken_5 : decode cX8_nextToken 5 = .ok (.putfield 55, 3) := by decide +kernel
theorem dX8_nextToken_8 : decode cX8_nextToken 8 = .ok (.aload_n 0, 1) := by decide +kernel
theorem dX8_nextToken_9 : decode cX8_nextToken 9 = .ok (.getfield 55, 3) := by decide +kernel
theorem dX8_nextToken_12 : decode cX8_nextToken 12 = .ok (.aload_n 0, 1) := by decide +kernel
theorem dX8_nextToken_13 : decode cX8_nextToken 13 = .ok (.getfield 49, 3) := by decide +kernel
theorem dX8_nextToken_16 : decode cX8_nextToken 16 = .ok (.if_icmp .ge 30, 3) := by decide +kernel
theorem dX8_nextToken_19 : decode cX8_nextToken 19 = .ok (.aload_n 0, 1) := by decide +kernel
theorem dX8_nextToken_20 : decode cX8_nextToken 20 = .ok (.getfield 17, 3) := by decide +kernel
theorem dX8_nextToken_23 : decode cX8_nextToken 23 = .ok (.aload_n 0, 1) := by decide +kernel
theorem dX8_nextToken_24 : decode cX8_nextToken 24 = .ok (.getfield 55, 3) := by decide +kernel
theorem dX8_nextToken_27 : decode cX8_nextToken 27 = .ok (.iaload, 1) := by decide +kernel
theorem dX8_nextToken_28 : decode cX8_nextToken 28 = .ok (.bipush 32, 2) := by decide +kernel
theorem dX8_nextToken_30 : decode cX8_nextToken 30 = .ok (.if_icmp .ne 16, 3) := by decide +kernel
theorem dX8_nextToken_33 : decode cX8_nextToken 33 = .ok (.aload_n 0, 1) := by decide +kernel
theorem dX8_nextToken_34 : decode cX8_nextToken 34 = .ok (.dup, 1) := by decide +kernel
theorem dX8_nextToken_35 : decode cX8_nextToken 35 = .ok (.getfield 55, 3) := by decide +kernel
theorem dX8_nextToken_38 : decode cX8_nextToken 38 = .ok (.iconst 1, 1) := by decide +kernel
theorem dX8_nextToken_39 : decode cX8_nextToken 39 = .ok (.iadd, 1) := by decide +kernel
theorem dX8_nextToken_40 : decode cX8_nextToken 40 = .ok (.putfield 55, 3) := by decide +kernel
theorem dX8_nextToken_43 : decode cX8_nextToken 43 = .ok (.goto (-35), 3) := by decide +kernel
theorem dX8_nextToken_46 : decode cX8_nextToken 46 = .ok (.aload_n 0, 1) := by decide +kernel
theorem dX8_nextToken_47 : decode cX8_nextToken 47 = .ok (.aload_n 0, 1) := by decide +kernel
theorem dX8_nextToken_48 : decode cX8_nextToken 48 = .ok (.getfield 55, 3) := by decide +kernel
theorem dX8_nextToken_51 : decode cX8_nextToken 51 = .ok (.aload_n 0, 1) := by decide +kernel
theorem dX8_nextToken_52 : decode cX8_nextToken 52 = .ok (.getfield 49, 3) := by decide +kernel
theorem dX8_nextToken_55 : decode cX8_nextToken 55 = .ok (.if_icmp .ge 12, 3) := by decide +kernel
theorem dX8_nextToken_58 : decode cX8_nextToken 58 = .ok (.aload_n 0, 1) := by decide +kernel
theorem dX8_nextToken_59 : decode cX8_nextToken 59 = .ok (.getfield 55, 3) := by decide +kernel
theorem dX8_nextToken_62 : decode cX8_nextToken 62 = .ok (.iconst 1, 1) := by decide +kernel
theorem dX8_nextToken_63 : decode cX8_nextToken 63 = .ok (.iadd, 1) := by decide +kernel
theorem dX8_nextToken_64 : decode cX8_nextToken 64 = .ok (.goto 7, 3) := by decide +kernel
theorem dX8_nextToken_67 : decode cX8_nextToken 67 = .ok (.aload_n 0, 1) := by decide +kernel
theorem dX8_nextToken_68 : decode cX8_nextToken 68 = .ok (.getfield 55, 3) := by decide +kernel
theorem dX8_nextToken_71 : decode cX8_nextToken 71 = .ok (.putfield 52, 3) := by decide +kernel
theorem dX8_nextToken_74 : decode cX8_nextToken 74 = .ok (.aload_n 0, 1) := by decide +kernel
theorem dX8_nextToken_75 : decode cX8_nextToken 75 = .ok (.aload_n 0, 1) := by decide +kernel
theorem dX8_nextToken_76 : decode cX8_nextToken 76 = .ok (.getfield 55, 3) := by decide +kernel
theorem dX8_nextToken_79 : decode cX8_nextToken 79 = .ok (.invokevirtual 58, 3) := by decide +kernel
theorem dX8_nextToken_82 : decode cX8_nextToken 82 = .ok (.ifCond .eq 27, 3) := by decide +kernel
theorem dX8_nextToken_85 : decode cX8_nextToken 85 = .ok (.aload_n 0, 1) := by decide +kernel
theorem dX8_nextToken_86 : decode cX8_nextToken 86 = .ok (.aload_n 0, 1) := by decide +kernel
theorem dX8_nextToken_87 : decode cX8_nextToken 87 = .ok (.getfield 52, 3) := by decide +kernel
theorem dX8_nextToken_90 : decode cX8_nextToken 90 = .ok (.invokevirtual 58, 3) := by decide +kernel
theorem dX8_nextToken_93 : decode cX8_nextToken 93 = .ok (.ifCond .eq 16, 3) := by decide +kernel
theorem dX8_nextToken_96 : decode cX8_nextToken 96 = .ok (.aload_n 0, 1) := by decide +kernel
theorem dX8_nextToken_97 : decode cX8_nextToken 97 = .ok (.dup, 1) := by decide +kernel
theorem dX8_nextToken_98 : decode cX8_nextToken 98 = .ok (.getfield 52, 3) := by decide +kernel
theorem dX8_nextToken_101 : decode cX8_nextToken 101 = .ok (.iconst 1, 1) := by decide +kernel
theorem dX8_nextToken_102 : decode cX8_nextToken 102 = .ok (.iadd, 1) := by decide +kernel
theorem dX8_nextToken_103 : decode cX8_nextToken 103 = .ok (.putfield 52, 3) := by decide +kernel
theorem dX8_nextToken_106 : decode cX8_nextToken 106 = .ok (.goto (-32), 3) := by decide +kernel
theorem dX8_nextToken_109 : decode cX8_nextToken 109 = .ok (.return_, 1) := by decide +kernel
theorem dX8_isSign_0 : decode cX8_isSign 0 = .ok (.aload_n 0, 1) := by decide +kernel
theorem dX8_isSign_1 : decode cX8_isSign 1 = .ok (.getfield 55, 3) := by decide +kernel
theorem dX8_isSign_4 : decode cX8_isSign 4 = .ok (.aload_n 0, 1) := by decide +kernel
theorem dX8_isSign_5 : decode cX8_isSign 5 = .ok (.getfield 49, 3) := by decide +kernel
theorem dX8_isSign_8 : decode cX8_isSign 8 = .ok (.if_icmp .ge 20, 3) := by decide +kernel
theorem dX8_isSign_11 : decode cX8_isSign 11 = .ok (.aload_n 0, 1) := by decide +kernel
theorem dX8_isSign_12 : decode cX8_isSign 12 = .ok (.getfield 17, 3) := by decide +kernel
theorem dX8_isSign_15 : decode cX8_isSign 15 = .ok (.aload_n 0, 1) := by decide +kernel
theorem dX8_isSign_16 : decode cX8_isSign 16 = .ok (.getfield 55, 3) := by decide +kernel
theorem dX8_isSign_19 : decode cX8_isSign 19 = .ok (.iaload, 1) := by decide +kernel
theorem dX8_isSign_20 : decode cX8_isSign 20 = .ok (.iload_n 1, 1) := by decide +kernel
theorem dX8_isSign_21 : decode cX8_isSign 21 = .ok (.if_icmp .ne 7, 3) := by decide +kernel
theorem dX8_isSign_24 : decode cX8_isSign 24 = .ok (.iconst 1, 1) := by decide +kernel
theorem dX8_isSign_25 : decode cX8_isSign 25 = .ok (.goto 4, 3) := by decide +kernel
theorem dX8_isSign_28 : decode cX8_isSign 28 = .ok (.iconst 0, 1) := by decide +kernel
theorem dX8_isSign_29 : decode cX8_isSign 29 = .ok (.ireturn, 1) := by decide +kernel
set_option maxRecDepth 20000 in
theorem ggX8_readsNumber_X8_nextToken : GoodIn wsX8_readsNumber wsX8_nextToken := goodIn_r _ [9, 2, 1, 10, 3, 11, 12, 13, 8, 14, 15, 16, 17, 18, 19, 20, 21, 22, 23, 24, 25, 26, 27, 28, 29, 30, 31, 32, 33, 34, 35, 36, 37, 38, 39] (by decide +kernel) (by decide +kernel)
set_option maxRecDepth 20000 in
theorem gX8_readsNumber_X8_nextToken : GoodIn wsX8_readsNumber (wsV RX8 62 RX8 yX8_nextToken wsX8_nextToken) := goodIn_app (goodIn_of _ (by decide +kernel)) ggX8_readsNumber_X8_nextToken
set_option maxRecDepth 20000 in
theorem ggX8_readsNumber_X8_isFigure : GoodIn wsX8_readsNumber wsX8_isFigure := goodIn_r _ [14, 10, 3, 15, 16, 8, 17, 18, 19, 20, 21, 22, 23, 24, 25, 26, 27, 28, 29, 30, 31, 32, 33, 34, 35, 36, 37, 38, 39] (by decide +kernel) (by decide +kernel)
set_option maxRecDepth 20000 in
theorem gX8_readsNumber_X8_isFigure : GoodIn wsX8_readsNumber (wsV RX8 58 RX8 yX8_isFigure wsX8_isFigure) := goodIn_app (goodIn_of _ (by decide +kernel)) ggX8_readsNumber_X8_isFigure
set_option maxRecDepth 20000 in
theorem ggX8_readsNumber_X8_in : GoodIn wsX8_readsNumber wsX8_in := goodIn_r _ [17] (by decide +kernel) (by decide +kernel)
set_option maxRecDepth 20000 in
theorem gX8_readsNumber_X8_in : GoodIn wsX8_readsNumber (va_wsS RX8 45 yX8_in wsX8_in) := goodIn_app (goodIn_of _ (by decide +kernel)) ggX8_readsNumber_X8_in
theorem dX8_readsNumber_0 : decode cX8_readsNumber 0 = .ok (.aload_n 0, 1) := by decide +kernel
theorem dX8_readsNumber_1 : decode cX8_readsNumber 1 = .ok (.invokevirtual 62, 3) := by decide +kernel
theorem dX8_readsNumber_4 : decode cX8_readsNumber 4 = .ok (.aload_n 0, 1) := by decide +kernel
theorem dX8_readsNumber_5 : decode cX8_readsNumber 5 = .ok (.aload_n 0, 1) := by decide +kernel
theorem dX8_readsNumber_6 : decode cX8_readsNumber 6 = .ok (.getfield 55, 3) := by decide +kernel
theorem dX8_readsNumber_9 : decode cX8_readsNumber 9 = .ok (.invokevirtual 58, 3) := by decide +kernel
theorem dX8_readsNumber_12 : decode cX8_readsNumber 12 = .ok (.ifCond .eq 43, 3) := by decide +kernel
theorem dX8_readsNumber_15 : decode cX8_readsNumber 15 = .ok (.aload_n 0, 1) := by decide +kernel
theorem dX8_readsNumber_16 : decode cX8_readsNumber 16 = .ok (.getfield 52, 3) := by decide +kernel
theorem dX8_readsNumber_19 : decode cX8_readsNumber 19 = .ok (.aload_n 0, 1) := by decide +kernel
theorem dX8_readsNumber_20 : decode cX8_readsNumber 20 = .ok (.getfield 55, 3) := by decide +kernel
theorem dX8_readsNumber_23 : decode cX8_readsNumber 23 = .ok (.isub, 1) := by decide +kernel
theorem dX8_readsNumber_24 : decode cX8_readsNumber 24 = .ok (.iconst 2, 1) := by decide +kernel
theorem dX8_readsNumber_25 : decode cX8_readsNumber 25 = .ok (.if_icmp .gt 30, 3) := by decide +kernel
theorem dX8_readsNumber_28 : decode cX8_readsNumber 28 = .ok (.aload_n 0, 1) := by decide +kernel
theorem dX8_readsNumber_29 : decode cX8_readsNumber 29 = .ok (.getfield 52, 3) := by decide +kernel
theorem dX8_readsNumber_32 : decode cX8_readsNumber 32 = .ok (.aload_n 0, 1) := by decide +kernel
theorem dX8_readsNumber_33 : decode cX8_readsNumber 33 = .ok (.getfield 55, 3) := by decide +kernel
theorem dX8_readsNumber_36 : decode cX8_readsNumber 36 = .ok (.isub, 1) := by decide +kernel
theorem dX8_readsNumber_37 : decode cX8_readsNumber 37 = .ok (.iconst 2, 1) := by decide +kernel
theorem dX8_readsNumber_38 : decode cX8_readsNumber 38 = .ok (.if_icmp .ne 19, 3) := by decide +kernel
theorem dX8_readsNumber_41 : decode cX8_readsNumber 41 = .ok (.aload_n 0, 1) := by decide +kernel
theorem dX8_readsNumber_42 : decode cX8_readsNumber 42 = .ok (.getfield 17, 3) := by decide +kernel
theorem dX8_readsNumber_45 : decode cX8_readsNumber 45 = .ok (.aload_n 0, 1) := by decide +kernel
theorem dX8_readsNumber_46 : decode cX8_readsNumber 46 = .ok (.getfield 55, 3) := by decide +kernel
theorem dX8_readsNumber_49 : decode cX8_readsNumber 49 = .ok (.iaload, 1) := by decide +kernel
theorem dX8_readsNumber_50 : decode cX8_readsNumber 50 = .ok (.bipush 48, 2) := by decide +kernel
theorem dX8_readsNumber_52 : decode cX8_readsNumber 52 = .ok (.if_icmp .ne 5, 3) := by decide +kernel
theorem dX8_readsNumber_55 : decode cX8_readsNumber 55 = .ok (.iconst 0, 1) := by decide +kernel
theorem dX8_readsNumber_56 : decode cX8_readsNumber 56 = .ok (.ireturn, 1) := by decide +kernel
theorem dX8_readsNumber_57 : decode cX8_readsNumber 57 = .ok (.aload_n 0, 1) := by decide +kernel
theorem dX8_readsNumber_58 : decode cX8_readsNumber 58 = .ok (.aload_n 0, 1) := by decide +kernel
theorem dX8_readsNumber_59 : decode cX8_readsNumber 59 = .ok (.getfield 17, 3) := by decide +kernel
theorem dX8_readsNumber_62 : decode cX8_readsNumber 62 = .ok (.aload_n 0, 1) := by decide +kernel
theorem dX8_readsNumber_63 : decode cX8_readsNumber 63 = .ok (.getfield 55, 3) := by decide +kernel
theorem dX8_readsNumber_66 : decode cX8_readsNumber 66 = .ok (.iaload, 1) := by decide +kernel
theorem dX8_readsNumber_67 : decode cX8_readsNumber 67 = .ok (.bipush 48, 2) := by decide +kernel
theorem dX8_readsNumber_69 : decode cX8_readsNumber 69 = .ok (.isub, 1) := by decide +kernel
theorem dX8_readsNumber_70 : decode cX8_readsNumber 70 = .ok (.putfield 65, 3) := by decide +kernel
theorem dX8_readsNumber_73 : decode cX8_readsNumber 73 = .ok (.aload_n 0, 1) := by decide +kernel
theorem dX8_readsNumber_74 : decode cX8_readsNumber 74 = .ok (.aload_n 0, 1) := by decide +kernel
theorem dX8_readsNumber_75 : decode cX8_readsNumber 75 = .ok (.getfield 52, 3) := by decide +kernel
theorem dX8_readsNumber_78 : decode cX8_readsNumber 78 = .ok (.aload_n 0, 1) := by decide +kernel
theorem dX8_readsNumber_79 : decode cX8_readsNumber 79 = .ok (.getfield 55, 3) := by decide +kernel
theorem dX8_readsNumber_82 : decode cX8_readsNumber 82 = .ok (.isub, 1) := by decide +kernel
theorem dX8_readsNumber_83 : decode cX8_readsNumber 83 = .ok (.iconst 2, 1) := by decide +kernel
theorem dX8_readsNumber_84 : decode cX8_readsNumber 84 = .ok (.if_icmp .ne 28, 3) := by decide +kernel
theorem dX8_readsNumber_87 : decode cX8_readsNumber 87 = .ok (.bipush 10, 2) := by decide +kernel
theorem dX8_readsNumber_89 : decode cX8_readsNumber 89 = .ok (.aload_n 0, 1) := by decide +kernel
theorem dX8_readsNumber_90 : decode cX8_readsNumber 90 = .ok (.getfield 65, 3) := by decide +kernel
theorem dX8_readsNumber_93 : decode cX8_readsNumber 93 = .ok (.imul, 1) := by decide +kernel
theorem dX8_readsNumber_94 : decode cX8_readsNumber 94 = .ok (.aload_n 0, 1) := by decide +kernel
theorem dX8_readsNumber_95 : decode cX8_readsNumber 95 = .ok (.getfield 17, 3) := by decide +kernel
theorem dX8_readsNumber_98 : decode cX8_readsNumber 98 = .ok (.aload_n 0, 1) := by decide +kernel
theorem dX8_readsNumber_99 : decode cX8_readsNumber 99 = .ok (.getfield 55, 3) := by decide +kernel
theorem dX8_readsNumber_102 : decode cX8_readsNumber 102 = .ok (.iconst 1, 1) := by decide +kernel
theorem dX8_readsNumber_103 : decode cX8_readsNumber 103 = .ok (.iadd, 1) := by decide +kernel
theorem dX8_readsNumber_104 : decode cX8_readsNumber 104 = .ok (.iaload, 1) := by decide +kernel
theorem dX8_readsNumber_105 : decode cX8_readsNumber 105 = .ok (.iadd, 1) := by decide +kernel
theorem dX8_readsNumber_106 : decode cX8_readsNumber 106 = .ok (.bipush 48, 2) := by decide +kernel
theorem dX8_readsNumber_108 : decode cX8_readsNumber 108 = .ok (.isub, 1) := by decide +kernel
theorem dX8_readsNumber_109 : decode cX8_readsNumber 109 = .ok (.goto 7, 3) := by decide +kernel
theorem dX8_readsNumber_112 : decode cX8_readsNumber 112 = .ok (.aload_n 0, 1) := by decide +kernel
theorem dX8_readsNumber_113 : decode cX8_readsNumber 113 = .ok (.getfield 65, 3) := by decide +kernel
theorem dX8_readsNumber_116 : decode cX8_readsNumber 116 = .ok (.putfield 65, 3) := by decide +kernel
theorem dX8_readsNumber_119 : decode cX8_readsNumber 119 = .ok (.aload_n 0, 1) := by decide +kernel
theorem dX8_readsNumber_120 : decode cX8_readsNumber 120 = .ok (.getfield 65, 3) := by decide +kernel
theorem dX8_readsNumber_123 : decode cX8_readsNumber 123 = .ok (.iload_n 1, 1) := by decide +kernel
theorem dX8_readsNumber_124 : decode cX8_readsNumber 124 = .ok (.iload_n 2, 1) := by decide +kernel
theorem dX8_readsNumber_125 : decode cX8_readsNumber 125 = .ok (.invokestatic 45, 3) := by decide +kernel
theorem dX8_readsNumber_128 : decode cX8_readsNumber 128 = .ok (.ireturn, 1) := by decide +kernel
set_option maxRecDepth 20000 in
theorem ggX8_readsLink_X8_readsNumber : GoodIn wsX8_readsLink wsX8_readsNumber := goodIn_r _ [8, 9, 10, 11, 3, 12, 13, 14, 7, 15, 16, 17, 18, 19, 20, 21, 22, 23, 24, 25, 26, 27, 28, 29, 30, 31, 32, 33, 34, 35, 36, 37, 38, 39, 40, 41, 42, 43, 44, 45] (by decide +kernel) (by decide +kernel)
set_option maxRecDepth 20000 in
theorem gX8_readsLink_X8_readsNumber : GoodIn wsX8_readsLink (wsV RX8 71 RX8 yX8_readsNumber wsX8_readsNumber) := goodIn_app (goodIn_of _ (by decide +kernel)) ggX8_readsLink_X8_readsNumber
theorem dX8_readsLink_0 : decode cX8_readsLink 0 = .ok (.aload_n 0, 1) := by decide +kernel
theorem dX8_readsLink_1 : decode cX8_readsLink 1 = .ok (.getfield 68, 3) := by decide +kernel
theorem dX8_readsLink_4 : decode cX8_readsLink 4 = .ok (.bipush 9, 2) := by decide +kernel
theorem dX8_readsLink_6 : decode cX8_readsLink 6 = .ok (.if_icmp .eq 13, 3) := by decide +kernel
theorem dX8_readsLink_9 : decode cX8_readsLink 9 = .ok (.aload_n 0, 1) := by decide +kernel
theorem dX8_readsLink_10 : decode cX8_readsLink 10 = .ok (.iconst 1, 1) := by decide +kernel
theorem dX8_readsLink_11 : decode cX8_readsLink 11 = .ok (.bipush 20, 2) := by decide +kernel
theorem dX8_readsLink_13 : decode cX8_readsLink 13 = .ok (.invokevirtual 71, 3) := by decide +kernel
theorem dX8_readsLink_16 : decode cX8_readsLink 16 = .ok (.ifCond .ne 5, 3) := by decide +kernel
theorem dX8_readsLink_19 : decode cX8_readsLink 19 = .ok (.iconst 0, 1) := by decide +kernel
theorem dX8_readsLink_20 : decode cX8_readsLink 20 = .ok (.ireturn, 1) := by decide +kernel
theorem dX8_readsLink_21 : decode cX8_readsLink 21 = .ok (.aload_n 0, 1) := by decide +kernel
theorem dX8_readsLink_22 : decode cX8_readsLink 22 = .ok (.getfield 26, 3) := by decide +kernel
theorem dX8_readsLink_25 : decode cX8_readsLink 25 = .ok (.aload_n 0, 1) := by decide +kernel
theorem dX8_readsLink_26 : decode cX8_readsLink 26 = .ok (.getfield 68, 3) := by decide +kernel
theorem dX8_readsLink_29 : decode cX8_readsLink 29 = .ok (.aload_n 0, 1) := by decide +kernel
theorem dX8_readsLink_30 : decode cX8_readsLink 30 = .ok (.getfield 65, 3) := by decide +kernel
theorem dX8_readsLink_33 : decode cX8_readsLink 33 = .ok (.iastore, 1) := by decide +kernel
theorem dX8_readsLink_34 : decode cX8_readsLink 34 = .ok (.aload_n 0, 1) := by decide +kernel
theorem dX8_readsLink_35 : decode cX8_readsLink 35 = .ok (.dup, 1) := by decide +kernel
theorem dX8_readsLink_36 : decode cX8_readsLink 36 = .ok (.getfield 68, 3) := by decide +kernel
theorem dX8_readsLink_39 : decode cX8_readsLink 39 = .ok (.iconst 1, 1) := by decide +kernel
theorem dX8_readsLink_40 : decode cX8_readsLink 40 = .ok (.iadd, 1) := by decide +kernel
theorem dX8_readsLink_41 : decode cX8_readsLink 41 = .ok (.putfield 68, 3) := by decide +kernel
theorem dX8_readsLink_44 : decode cX8_readsLink 44 = .ok (.iconst 1, 1) := by decide +kernel
theorem dX8_readsLink_45 : decode cX8_readsLink 45 = .ok (.ireturn, 1) := by decide +kernel
set_option maxRecDepth 20000 in
theorem ggX8_readsJoint_X8_readsNumber : GoodIn wsX8_readsJoint wsX8_readsNumber := goodIn_r _ [9, 10, 11, 12, 4, 13, 14, 15, 8, 16, 17, 18, 19, 20, 21, 22, 23, 24, 28, 29, 30, 31, 32, 33, 34, 35, 36, 37, 38, 39, 40, 41, 42, 43, 44, 45, 46, 47, 48, 49] (by decide +kernel) (by decide +kernel)
set_option maxRecDepth 20000 in
theorem gX8_readsJoint_X8_readsNumber : GoodIn wsX8_readsJoint (wsV RX8 71 RX8 yX8_readsNumber wsX8_readsNumber) := goodIn_app (goodIn_of _ (by decide +kernel)) ggX8_readsJoint_X8_readsNumber
set_option maxRecDepth 20000 in
theorem ggX8_readsJoint_X8_has : GoodIn wsX8_readsJoint wsX8_has := goodIn_r _ [27] (by decide +kernel) (by decide +kernel)
set_option maxRecDepth 20000 in
theorem gX8_readsJoint_X8_has : GoodIn wsX8_readsJoint (va_wsS RX8 81 yX8_has wsX8_has) := goodIn_app (goodIn_of _ (by decide +kernel)) ggX8_readsJoint_X8_has
theorem dX8_readsJoint_0 : decode cX8_readsJoint 0 = .ok (.aload_n 0, 1) := by decide +kernel
theorem dX8_readsJoint_1 : decode cX8_readsJoint 1 = .ok (.iconst 0, 1) := by decide +kernel
theorem dX8_readsJoint_2 : decode cX8_readsJoint 2 = .ok (.aload_n 0, 1) := by decide +kernel
theorem dX8_readsJoint_3 : decode cX8_readsJoint 3 = .ok (.getfield 68, 3) := by decide +kernel
theorem dX8_readsJoint_6 : decode cX8_readsJoint 6 = .ok (.iconst 2, 1) := by decide +kernel
theorem dX8_readsJoint_7 : decode cX8_readsJoint 7 = .ok (.isub, 1) := by decide +kernel
theorem dX8_readsJoint_8 : decode cX8_readsJoint 8 = .ok (.invokevirtual 71, 3) := by decide +kernel
theorem dX8_readsJoint_11 : decode cX8_readsJoint 11 = .ok (.ifCond .eq 22, 3) := by decide +kernel
theorem dX8_readsJoint_14 : decode cX8_readsJoint 14 = .ok (.aload_n 0, 1) := by decide +kernel
theorem dX8_readsJoint_15 : decode cX8_readsJoint 15 = .ok (.getfield 75, 3) := by decide +kernel
theorem dX8_readsJoint_18 : decode cX8_readsJoint 18 = .ok (.aload_n 0, 1) := by decide +kernel
theorem dX8_readsJoint_19 : decode cX8_readsJoint 19 = .ok (.getfield 78, 3) := by decide +kernel
theorem dX8_readsJoint_22 : decode cX8_readsJoint 22 = .ok (.ior, 1) := by decide +kernel
theorem dX8_readsJoint_23 : decode cX8_readsJoint 23 = .ok (.aload_n 0, 1) := by decide +kernel
theorem dX8_readsJoint_24 : decode cX8_readsJoint 24 = .ok (.getfield 65, 3) := by decide +kernel
theorem dX8_readsJoint_27 : decode cX8_readsJoint 27 = .ok (.invokestatic 81, 3) := by decide +kernel
theorem dX8_readsJoint_30 : decode cX8_readsJoint 30 = .ok (.ifCond .eq 5, 3) := by decide +kernel
theorem dX8_readsJoint_33 : decode cX8_readsJoint 33 = .ok (.iconst 0, 1) := by decide +kernel
theorem dX8_readsJoint_34 : decode cX8_readsJoint 34 = .ok (.ireturn, 1) := by decide +kernel
theorem dX8_readsJoint_35 : decode cX8_readsJoint 35 = .ok (.aload_n 0, 1) := by decide +kernel
theorem dX8_readsJoint_36 : decode cX8_readsJoint 36 = .ok (.dup, 1) := by decide +kernel
theorem dX8_readsJoint_37 : decode cX8_readsJoint 37 = .ok (.getfield 75, 3) := by decide +kernel
theorem dX8_readsJoint_40 : decode cX8_readsJoint 40 = .ok (.iload_n 1, 1) := by decide +kernel
theorem dX8_readsJoint_41 : decode cX8_readsJoint 41 = .ok (.ifCond .eq 12, 3) := by decide +kernel
theorem dX8_readsJoint_44 : decode cX8_readsJoint 44 = .ok (.iconst 1, 1) := by decide +kernel
theorem dX8_readsJoint_45 : decode cX8_readsJoint 45 = .ok (.aload_n 0, 1) := by decide +kernel
theorem dX8_readsJoint_46 : decode cX8_readsJoint 46 = .ok (.getfield 65, 3) := by decide +kernel
theorem dX8_readsJoint_49 : decode cX8_readsJoint 49 = .ok (.ishl, 1) := by decide +kernel
theorem dX8_readsJoint_50 : decode cX8_readsJoint 50 = .ok (.goto 4, 3) := by decide +kernel
theorem dX8_readsJoint_53 : decode cX8_readsJoint 53 = .ok (.iconst 0, 1) := by decide +kernel
theorem dX8_readsJoint_54 : decode cX8_readsJoint 54 = .ok (.ior, 1) := by decide +kernel
theorem dX8_readsJoint_55 : decode cX8_readsJoint 55 = .ok (.putfield 75, 3) := by decide +kernel
theorem dX8_readsJoint_58 : decode cX8_readsJoint 58 = .ok (.aload_n 0, 1) := by decide +kernel
theorem dX8_readsJoint_59 : decode cX8_readsJoint 59 = .ok (.dup, 1) := by decide +kernel
theorem dX8_readsJoint_60 : decode cX8_readsJoint 60 = .ok (.getfield 78, 3) := by decide +kernel
theorem dX8_readsJoint_63 : decode cX8_readsJoint 63 = .ok (.iload_n 1, 1) := by decide +kernel
theorem dX8_readsJoint_64 : decode cX8_readsJoint 64 = .ok (.ifCond .eq 7, 3) := by decide +kernel
theorem dX8_readsJoint_67 : decode cX8_readsJoint 67 = .ok (.iconst 0, 1) := by decide +kernel
theorem dX8_readsJoint_68 : decode cX8_readsJoint 68 = .ok (.goto 9, 3) := by decide +kernel
theorem dX8_readsJoint_71 : decode cX8_readsJoint 71 = .ok (.iconst 1, 1) := by decide +kernel
theorem dX8_readsJoint_72 : decode cX8_readsJoint 72 = .ok (.aload_n 0, 1) := by decide +kernel
theorem dX8_readsJoint_73 : decode cX8_readsJoint 73 = .ok (.getfield 65, 3) := by decide +kernel
theorem dX8_readsJoint_76 : decode cX8_readsJoint 76 = .ok (.ishl, 1) := by decide +kernel
theorem dX8_readsJoint_77 : decode cX8_readsJoint 77 = .ok (.ior, 1) := by decide +kernel
theorem dX8_readsJoint_78 : decode cX8_readsJoint 78 = .ok (.putfield 78, 3) := by decide +kernel
theorem dX8_readsJoint_81 : decode cX8_readsJoint 81 = .ok (.iconst 1, 1) := by decide +kernel
theorem dX8_readsJoint_82 : decode cX8_readsJoint 82 = .ok (.ireturn, 1) := by decide +kernel
set_option maxRecDepth 20000 in
theorem ggX8_readsItem_X8_isSign : GoodIn wsX8_readsItem wsX8_isSign := goodIn_r _ [5, 6, 7, 8, 41, 42, 43, 44, 45, 46, 47, 48, 49, 50, 51, 52, 53, 54, 55, 56, 57, 58, 59, 60, 61, 62] (by decide +kernel) (by decide +kernel)
set_option maxRecDepth 20000 in
theorem gX8_readsItem_X8_isSign : GoodIn wsX8_readsItem (wsV RX8 84 RX8 yX8_isSign wsX8_isSign) := goodIn_app (goodIn_of _ (by decide +kernel)) ggX8_readsItem_X8_isSign
set_option maxRecDepth 20000 in
theorem ggX8_readsItem_X8_readsLink : GoodIn wsX8_readsItem wsX8_readsLink := goodIn_r _ [12, 13, 14, 15, 16, 17, 18, 4, 19, 6, 20, 8, 21, 22, 23, 24, 7, 25, 26, 27, 28, 29, 30, 31, 41, 42, 43, 44, 45, 46, 47, 48, 49, 50, 51, 52, 53, 54, 55, 56, 57, 58, 59, 60, 61, 62] (by decide +kernel) (by decide +kernel)
set_option maxRecDepth 20000 in
theorem gX8_readsItem_X8_readsLink : GoodIn wsX8_readsItem (wsV RX8 87 RX8 yX8_readsLink wsX8_readsLink) := goodIn_app (goodIn_of _ (by decide +kernel)) ggX8_readsItem_X8_readsLink
set_option maxRecDepth 20000 in
theorem ggX8_readsItem_X8_readsJoint : GoodIn wsX8_readsItem wsX8_readsJoint := goodIn_r _ [35, 13, 36, 37, 15, 16, 17, 18, 4, 19, 6, 20, 8, 21, 22, 23, 24, 7, 25, 26, 27, 28, 29, 30, 31, 38, 39, 40, 41, 42, 43, 44, 45, 46, 47, 48, 49, 50, 51, 52, 53, 54, 55, 56, 57, 58, 59, 60, 61, 62] (by decide +kernel) (by decide +kernel)
set_option maxRecDepth 20000 in
theorem gX8_readsItem_X8_readsJoint : GoodIn wsX8_readsItem (wsV RX8 91 RX8 yX8_readsJoint wsX8_readsJoint) := goodIn_app (goodIn_of _ (by decide +kernel)) ggX8_readsItem_X8_readsJoint
set_option maxRecDepth 20000 in
theorem ggX8_readsItem_X8_nextToken : GoodIn wsX8_readsItem wsX8_nextToken := goodIn_r _ [24, 20, 6, 7, 8, 25, 26, 27, 4, 28, 29, 30, 31, 41, 42, 43, 44, 45, 46, 47, 48, 49, 50, 51, 52, 53, 54, 55, 56, 57, 58, 59, 60, 61, 62] (by decide +kernel) (by decide +kernel)
set_option maxRecDepth 20000 in
theorem gX8_readsItem_X8_nextToken : GoodIn wsX8_readsItem (wsV RX8 62 RX8 yX8_nextToken wsX8_nextToken) := goodIn_app (goodIn_of _ (by decide +kernel)) ggX8_readsItem_X8_nextToken
theorem dX8_readsItem_0 : decode cX8_readsItem 0 = .ok (.aload_n 0, 1) := by decide +kernel
theorem dX8_readsItem_1 : decode cX8_readsItem 1 = .ok (.bipush 107, 2) := by decide +kernel
theorem dX8_readsItem_3 : decode cX8_readsItem 3 = .ok (.invokevirtual 84, 3) := by decide +kernel
theorem dX8_readsItem_6 : decode cX8_readsItem 6 = .ok (.ifCond .eq 10, 3) := by decide +kernel
theorem dX8_readsItem_9 : decode cX8_readsItem 9 = .ok (.aload_n 0, 1) := by decide +kernel
theorem dX8_readsItem_10 : decode cX8_readsItem 10 = .ok (.invokevirtual 87, 3) := by decide +kernel
theorem dX8_readsItem_13 : decode cX8_readsItem 13 = .ok (.goto 42, 3) := by decide +kernel
theorem dX8_readsItem_16 : decode cX8_readsItem 16 = .ok (.aload_n 0, 1) := by decide +kernel
theorem dX8_readsItem_17 : decode cX8_readsItem 17 = .ok (.bipush 102, 2) := by decide +kernel
theorem dX8_readsItem_19 : decode cX8_readsItem 19 = .ok (.invokevirtual 84, 3) := by decide +kernel
theorem dX8_readsItem_22 : decode cX8_readsItem 22 = .ok (.ifCond .eq 11, 3) := by decide +kernel
theorem dX8_readsItem_25 : decode cX8_readsItem 25 = .ok (.aload_n 0, 1) := by decide +kernel
theorem dX8_readsItem_26 : decode cX8_readsItem 26 = .ok (.iconst 1, 1) := by decide +kernel
theorem dX8_readsItem_27 : decode cX8_readsItem 27 = .ok (.invokevirtual 91, 3) := by decide +kernel
theorem dX8_readsItem_30 : decode cX8_readsItem 30 = .ok (.goto 25, 3) := by decide +kernel
theorem dX8_readsItem_33 : decode cX8_readsItem 33 = .ok (.aload_n 0, 1) := by decide +kernel
theorem dX8_readsItem_34 : decode cX8_readsItem 34 = .ok (.bipush 120, 2) := by decide +kernel
theorem dX8_readsItem_36 : decode cX8_readsItem 36 = .ok (.invokevirtual 84, 3) := by decide +kernel
theorem dX8_readsItem_39 : decode cX8_readsItem 39 = .ok (.ifCond .eq 15, 3) := by decide +kernel
theorem dX8_readsItem_42 : decode cX8_readsItem 42 = .ok (.aload_n 0, 1) := by decide +kernel
theorem dX8_readsItem_43 : decode cX8_readsItem 43 = .ok (.iconst 0, 1) := by decide +kernel
theorem dX8_readsItem_44 : decode cX8_readsItem 44 = .ok (.invokevirtual 91, 3) := by decide +kernel
theorem dX8_readsItem_47 : decode cX8_readsItem 47 = .ok (.ifCond .eq 7, 3) := by decide +kernel
theorem dX8_readsItem_50 : decode cX8_readsItem 50 = .ok (.iconst 1, 1) := by decide +kernel
theorem dX8_readsItem_51 : decode cX8_readsItem 51 = .ok (.goto 4, 3) := by decide +kernel
theorem dX8_readsItem_54 : decode cX8_readsItem 54 = .ok (.iconst 0, 1) := by decide +kernel
theorem dX8_readsItem_55 : decode cX8_readsItem 55 = .ok (.istore_n 1, 1) := by decide +kernel
theorem dX8_readsItem_56 : decode cX8_readsItem 56 = .ok (.iload_n 1, 1) := by decide +kernel
theorem dX8_readsItem_57 : decode cX8_readsItem 57 = .ok (.ifCond .eq 14, 3) := by decide +kernel
theorem dX8_readsItem_60 : decode cX8_readsItem 60 = .ok (.aload_n 0, 1) := by decide +kernel
theorem dX8_readsItem_61 : decode cX8_readsItem 61 = .ok (.invokevirtual 62, 3) := by decide +kernel
theorem dX8_readsItem_64 : decode cX8_readsItem 64 = .ok (.aload_n 0, 1) := by decide +kernel
theorem dX8_readsItem_65 : decode cX8_readsItem 65 = .ok (.bipush 59, 2) := by decide +kernel
theorem dX8_readsItem_67 : decode cX8_readsItem 67 = .ok (.invokevirtual 84, 3) := by decide +kernel
theorem dX8_readsItem_70 : decode cX8_readsItem 70 = .ok (.istore_n 1, 1) := by decide +kernel
theorem dX8_readsItem_71 : decode cX8_readsItem 71 = .ok (.iload_n 1, 1) := by decide +kernel
theorem dX8_readsItem_72 : decode cX8_readsItem 72 = .ok (.ireturn, 1) := by decide +kernel
set_option maxRecDepth 20000 in
theorem ggX8_readItems_X8_nextToken : GoodIn wsX8_readItems wsX8_nextToken := goodIn_r _ [11, 1, 5, 6, 12, 13, 14, 15, 10, 16, 17, 18, 19, 45, 46, 47, 48, 49, 50, 51, 52, 53, 54, 55, 56, 57, 58, 59, 60, 61, 62, 63, 64, 65, 66] (by decide +kernel) (by decide +kernel)
set_option maxRecDepth 20000 in
theorem gX8_readItems_X8_nextToken : GoodIn wsX8_readItems (wsV RX8 62 RX8 yX8_nextToken wsX8_nextToken) := goodIn_app (goodIn_of _ (by decide +kernel)) ggX8_readItems_X8_nextToken
set_option maxRecDepth 20000 in
theorem ggX8_readItems_X8_readsItem : GoodIn wsX8_readItems wsX8_readsItem := goodIn_r _ [23, 24, 25, 26, 10, 27, 5, 6, 12, 28, 29, 30, 31, 2, 32, 33, 34, 35, 36, 37, 1, 7, 8, 9, 11, 13, 14, 15, 16, 17, 18, 19, 38, 39, 40, 41, 3, 4, 42, 43, 44, 45, 46, 47, 48, 49, 50, 51, 52, 53, 54, 55, 56, 57, 58, 59, 60, 61, 62, 63, 64, 65, 66] (by decide +kernel) (by decide +kernel)
set_option maxRecDepth 20000 in
theorem gX8_readItems_X8_readsItem : GoodIn wsX8_readItems (wsV RX8 95 RX8 yX8_readsItem wsX8_readsItem) := goodIn_app (goodIn_of _ (by decide +kernel)) ggX8_readItems_X8_readsItem
theorem dX8_readItems_0 : decode cX8_readItems 0 = .ok (.aload_n 0, 1) := by decide +kernel
theorem dX8_readItems_1 : decode cX8_readItems 1 = .ok (.iconst 0, 1) := by decide +kernel
theorem dX8_readItems_2 : decode cX8_readItems 2 = .ok (.putfield 52, 3) := by decide +kernel
theorem dX8_readItems_5 : decode cX8_readItems 5 = .ok (.aload_n 0, 1) := by decide +kernel
theorem dX8_readItems_6 : decode cX8_readItems 6 = .ok (.iconst 0, 1) := by decide +kernel
theorem dX8_readItems_7 : decode cX8_readItems 7 = .ok (.putfield 68, 3) := by decide +kernel
theorem dX8_readItems_10 : decode cX8_readItems 10 = .ok (.aload_n 0, 1) := by decide +kernel
theorem dX8_readItems_11 : decode cX8_readItems 11 = .ok (.iconst 0, 1) := by decide +kernel
theorem dX8_readItems_12 : decode cX8_readItems 12 = .ok (.putfield 75, 3) := by decide +kernel
theorem dX8_readItems_15 : decode cX8_readItems 15 = .ok (.aload_n 0, 1) := by decide +kernel
theorem dX8_readItems_16 : decode cX8_readItems 16 = .ok (.iconst 0, 1) := by decide +kernel
theorem dX8_readItems_17 : decode cX8_readItems 17 = .ok (.putfield 78, 3) := by decide +kernel
theorem dX8_readItems_20 : decode cX8_readItems 20 = .ok (.iconst 0, 1) := by decide +kernel
theorem dX8_readItems_21 : decode cX8_readItems 21 = .ok (.istore_n 1, 1) := by decide +kernel
theorem dX8_readItems_22 : decode cX8_readItems 22 = .ok (.aload_n 0, 1) := by decide +kernel
theorem dX8_readItems_23 : decode cX8_readItems 23 = .ok (.invokevirtual 62, 3) := by decide +kernel
theorem dX8_readItems_26 : decode cX8_readItems 26 = .ok (.aload_n 0, 1) := by decide +kernel
theorem dX8_readItems_27 : decode cX8_readItems 27 = .ok (.getfield 55, 3) := by decide +kernel
theorem dX8_readItems_30 : decode cX8_readItems 30 = .ok (.aload_n 0, 1) := by decide +kernel
theorem dX8_readItems_31 : decode cX8_readItems 31 = .ok (.getfield 49, 3) := by decide +kernel
theorem dX8_readItems_34 : decode cX8_readItems 34 = .ok (.if_icmp .ge 23, 3) := by decide +kernel
theorem dX8_readItems_37 : decode cX8_readItems 37 = .ok (.aload_n 0, 1) := by decide +kernel
theorem dX8_readItems_38 : decode cX8_readItems 38 = .ok (.invokevirtual 95, 3) := by decide +kernel
theorem dX8_readItems_41 : decode cX8_readItems 41 = .ok (.ifCond .ne 6, 3) := by decide +kernel
theorem dX8_readItems_44 : decode cX8_readItems 44 = .ok (.bipush (-9), 2) := by decide +kernel
theorem dX8_readItems_46 : decode cX8_readItems 46 = .ok (.ireturn, 1) := by decide +kernel
theorem dX8_readItems_47 : decode cX8_readItems 47 = .ok (.iinc 1 1, 3) := by decide +kernel
theorem dX8_readItems_50 : decode cX8_readItems 50 = .ok (.aload_n 0, 1) := by decide +kernel
theorem dX8_readItems_51 : decode cX8_readItems 51 = .ok (.invokevirtual 62, 3) := by decide +kernel
theorem dX8_readItems_54 : decode cX8_readItems 54 = .ok (.goto (-28), 3) := by decide +kernel
theorem dX8_readItems_57 : decode cX8_readItems 57 = .ok (.iload_n 1, 1) := by decide +kernel
theorem dX8_readItems_58 : decode cX8_readItems 58 = .ok (.ireturn, 1) := by decide +kernel
set_option maxRecDepth 20000 in
theorem ggX8_rule_X8_readItems : GoodIn wsX8_rule wsX8_readItems := goodIn_r _ [16, 17, 3, 7, 8, 1, 2, 18, 19, 20, 15, 21, 22, 23, 24, 25, 26, 27, 28, 29, 30, 31, 32, 33, 34, 35, 36, 37, 38, 39, 40, 41, 6, 42, 43, 44, 45, 46, 47, 48, 49, 50, 51, 52, 53, 54, 55, 56, 57, 58, 59, 60, 61, 62, 63, 64, 65, 66, 67, 68, 69, 70, 71, 72, 73, 74, 75] (by decide +kernel) (by decide +kernel)
set_option maxRecDepth 20000 in
theorem gX8_rule_X8_readItems : GoodIn wsX8_rule (wsV RX8 98 RX8 yX8_readItems wsX8_readItems) := goodIn_app (goodIn_of _ (by decide +kernel)) ggX8_rule_X8_readItems
theorem dX8_rule_0 : decode cX8_rule 0 = .ok (.aload_n 0, 1) := by decide +kernel
theorem dX8_rule_1 : decode cX8_rule 1 = .ok (.invokevirtual 98, 3) := by decide +kernel
theorem dX8_rule_4 : decode cX8_rule 4 = .ok (.istore_n 1, 1) := by decide +kernel
theorem dX8_rule_5 : decode cX8_rule 5 = .ok (.iload_n 1, 1) := by decide +kernel
theorem dX8_rule_6 : decode cX8_rule 6 = .ok (.bipush (-9), 2) := by decide +kernel
theorem dX8_rule_8 : decode cX8_rule 8 = .ok (.if_icmp .ne 11, 3) := by decide +kernel
theorem dX8_rule_11 : decode cX8_rule 11 = .ok (.bipush (-10), 2) := by decide +kernel
theorem dX8_rule_13 : decode cX8_rule 13 = .ok (.aload_n 0, 1) := by decide +kernel
theorem dX8_rule_14 : decode cX8_rule 14 = .ok (.getfield 55, 3) := by decide +kernel
theorem dX8_rule_17 : decode cX8_rule 17 = .ok (.isub, 1) := by decide +kernel
theorem dX8_rule_18 : decode cX8_rule 18 = .ok (.ireturn, 1) := by decide +kernel
theorem dX8_rule_19 : decode cX8_rule 19 = .ok (.aload_n 0, 1) := by decide +kernel
theorem dX8_rule_20 : decode cX8_rule 20 = .ok (.iconst 0, 1) := by decide +kernel
theorem dX8_rule_21 : decode cX8_rule 21 = .ok (.putfield 49, 3) := by decide +kernel
theorem dX8_rule_24 : decode cX8_rule 24 = .ok (.aload_n 0, 1) := by decide +kernel
theorem dX8_rule_25 : decode cX8_rule 25 = .ok (.aload_n 0, 1) := by decide +kernel
theorem dX8_rule_26 : decode cX8_rule 26 = .ok (.getfield 68, 3) := by decide +kernel
theorem dX8_rule_29 : decode cX8_rule 29 = .ok (.putfield 41, 3) := by decide +kernel
theorem dX8_rule_32 : decode cX8_rule 32 = .ok (.iconst 0, 1) := by decide +kernel
theorem dX8_rule_33 : decode cX8_rule 33 = .ok (.istore_n 2, 1) := by decide +kernel
theorem dX8_rule_34 : decode cX8_rule 34 = .ok (.iload_n 2, 1) := by decide +kernel
theorem dX8_rule_35 : decode cX8_rule 35 = .ok (.bipush 9, 2) := by decide +kernel
theorem dX8_rule_37 : decode cX8_rule 37 = .ok (.if_icmp .ge 35, 3) := by decide +kernel
theorem dX8_rule_40 : decode cX8_rule 40 = .ok (.aload_n 0, 1) := by decide +kernel
theorem dX8_rule_41 : decode cX8_rule 41 = .ok (.getfield 7, 3) := by decide +kernel
theorem dX8_rule_44 : decode cX8_rule 44 = .ok (.iconst 0, 1) := by decide +kernel
theorem dX8_rule_45 : decode cX8_rule 45 = .ok (.iload_n 2, 1) := by decide +kernel
theorem dX8_rule_46 : decode cX8_rule 46 = .ok (.iadd, 1) := by decide +kernel
theorem dX8_rule_47 : decode cX8_rule 47 = .ok (.iload_n 2, 1) := by decide +kernel
theorem dX8_rule_48 : decode cX8_rule 48 = .ok (.aload_n 0, 1) := by decide +kernel
theorem dX8_rule_49 : decode cX8_rule 49 = .ok (.getfield 41, 3) := by decide +kernel
theorem dX8_rule_52 : decode cX8_rule 52 = .ok (.if_icmp .ge 12, 3) := by decide +kernel
theorem dX8_rule_55 : decode cX8_rule 55 = .ok (.aload_n 0, 1) := by decide +kernel
theorem dX8_rule_56 : decode cX8_rule 56 = .ok (.getfield 26, 3) := by decide +kernel
theorem dX8_rule_59 : decode cX8_rule 59 = .ok (.iload_n 2, 1) := by decide +kernel
theorem dX8_rule_60 : decode cX8_rule 60 = .ok (.iaload, 1) := by decide +kernel
theorem dX8_rule_61 : decode cX8_rule 61 = .ok (.goto 4, 3) := by decide +kernel
theorem dX8_rule_64 : decode cX8_rule 64 = .ok (.iconst 0, 1) := by decide +kernel
theorem dX8_rule_65 : decode cX8_rule 65 = .ok (.iastore, 1) := by decide +kernel
theorem dX8_rule_66 : decode cX8_rule 66 = .ok (.iinc 2 1, 3) := by decide +kernel
theorem dX8_rule_69 : decode cX8_rule 69 = .ok (.goto (-35), 3) := by decide +kernel
theorem dX8_rule_72 : decode cX8_rule 72 = .ok (.aload_n 0, 1) := by decide +kernel
theorem dX8_rule_73 : decode cX8_rule 73 = .ok (.getfield 7, 3) := by decide +kernel
theorem dX8_rule_76 : decode cX8_rule 76 = .ok (.bipush 9, 2) := by decide +kernel
theorem dX8_rule_78 : decode cX8_rule 78 = .ok (.aload_n 0, 1) := by decide +kernel
theorem dX8_rule_79 : decode cX8_rule 79 = .ok (.getfield 75, 3) := by decide +kernel
theorem dX8_rule_82 : decode cX8_rule 82 = .ok (.iastore, 1) := by decide +kernel
theorem dX8_rule_83 : decode cX8_rule 83 = .ok (.aload_n 0, 1) := by decide +kernel
theorem dX8_rule_84 : decode cX8_rule 84 = .ok (.getfield 7, 3) := by decide +kernel
theorem dX8_rule_87 : decode cX8_rule 87 = .ok (.bipush 10, 2) := by decide +kernel
theorem dX8_rule_89 : decode cX8_rule 89 = .ok (.aload_n 0, 1) := by decide +kernel
theorem dX8_rule_90 : decode cX8_rule 90 = .ok (.getfield 78, 3) := by decide +kernel
theorem dX8_rule_93 : decode cX8_rule 93 = .ok (.iastore, 1) := by decide +kernel
theorem dX8_rule_94 : decode cX8_rule 94 = .ok (.aload_n 0, 1) := by decide +kernel
theorem dX8_rule_95 : decode cX8_rule 95 = .ok (.iconst 0, 1) := by decide +kernel
theorem dX8_rule_96 : decode cX8_rule 96 = .ok (.putfield 102, 3) := by decide +kernel
theorem dX8_rule_99 : decode cX8_rule 99 = .ok (.aload_n 0, 1) := by decide +kernel
theorem dX8_rule_100 : decode cX8_rule 100 = .ok (.iconst 0, 1) := by decide +kernel
theorem dX8_rule_101 : decode cX8_rule 101 = .ok (.putfield 105, 3) := by decide +kernel
theorem dX8_rule_104 : decode cX8_rule 104 = .ok (.aload_n 0, 1) := by decide +kernel
theorem dX8_rule_105 : decode cX8_rule 105 = .ok (.getfield 13, 3) := by decide +kernel
theorem dX8_rule_108 : decode cX8_rule 108 = .ok (.iconst 0, 1) := by decide +kernel
theorem dX8_rule_109 : decode cX8_rule 109 = .ok (.iconst 0, 1) := by decide +kernel
theorem dX8_rule_110 : decode cX8_rule 110 = .ok (.bastore, 1) := by decide +kernel
theorem dX8_rule_111 : decode cX8_rule 111 = .ok (.aload_n 0, 1) := by decide +kernel
theorem dX8_rule_112 : decode cX8_rule 112 = .ok (.getfield 13, 3) := by decide +kernel
theorem dX8_rule_115 : decode cX8_rule 115 = .ok (.iconst 1, 1) := by decide +kernel
theorem dX8_rule_116 : decode cX8_rule 116 = .ok (.iconst 0, 1) := by decide +kernel
theorem dX8_rule_117 : decode cX8_rule 117 = .ok (.bastore, 1) := by decide +kernel
theorem dX8_rule_118 : decode cX8_rule 118 = .ok (.iload_n 1, 1) := by decide +kernel
theorem dX8_rule_119 : decode cX8_rule 119 = .ok (.ireturn, 1) := by decide +kernel
set_option maxRecDepth 20000 in
theorem ggX8_lies_X8_has : GoodIn wsX8_lies wsX8_has := goodIn_r _ [7] (by decide +kernel) (by decide +kernel)
set_option maxRecDepth 20000 in
theorem gX8_lies_X8_has : GoodIn wsX8_lies (va_wsS RX8 81 yX8_has wsX8_has) := goodIn_app (goodIn_of _ (by decide +kernel)) ggX8_lies_X8_has
theorem dX8_lies_0 : decode cX8_lies 0 = .ok (.iconst 1, 1) := by decide +kernel
theorem dX8_lies_1 : decode cX8_lies 1 = .ok (.istore 4, 2) := by decide +kernel
theorem dX8_lies_3 : decode cX8_lies 3 = .ok (.aload_n 0, 1) := by decide +kernel
theorem dX8_lies_4 : decode cX8_lies 4 = .ok (.getfield 29, 3) := by decide +kernel
theorem dX8_lies_7 : decode cX8_lies 7 = .ok (.iconst 0, 1) := by decide +kernel
theorem dX8_lies_8 : decode cX8_lies 8 = .ok (.iconst 0, 1) := by decide +kernel
theorem dX8_lies_9 : decode cX8_lies 9 = .ok (.iastore, 1) := by decide +kernel
theorem dX8_lies_10 : decode cX8_lies 10 = .ok (.iconst 0, 1) := by decide +kernel
theorem dX8_lies_11 : decode cX8_lies 11 = .ok (.istore 5, 2) := by decide +kernel
theorem dX8_lies_13 : decode cX8_lies 13 = .ok (.iload 5, 2) := by decide +kernel
theorem dX8_lies_15 : decode cX8_lies 15 = .ok (.aload_n 0, 1) := by decide +kernel
theorem dX8_lies_16 : decode cX8_lies 16 = .ok (.getfield 41, 3) := by decide +kernel
theorem dX8_lies_19 : decode cX8_lies 19 = .ok (.if_icmp .ge 69, 3) := by decide +kernel
theorem dX8_lies_22 : decode cX8_lies 22 = .ok (.aload_n 0, 1) := by decide +kernel
theorem dX8_lies_23 : decode cX8_lies 23 = .ok (.getfield 29, 3) := by decide +kernel
theorem dX8_lies_26 : decode cX8_lies 26 = .ok (.iload 5, 2) := by decide +kernel
theorem dX8_lies_28 : decode cX8_lies 28 = .ok (.iconst 1, 1) := by decide +kernel
theorem dX8_lies_29 : decode cX8_lies 29 = .ok (.iadd, 1) := by decide +kernel
theorem dX8_lies_30 : decode cX8_lies 30 = .ok (.aload_n 0, 1) := by decide +kernel
theorem dX8_lies_31 : decode cX8_lies 31 = .ok (.getfield 29, 3) := by decide +kernel
theorem dX8_lies_34 : decode cX8_lies 34 = .ok (.iload 5, 2) := by decide +kernel
theorem dX8_lies_36 : decode cX8_lies 36 = .ok (.iaload, 1) := by decide +kernel
theorem dX8_lies_37 : decode cX8_lies 37 = .ok (.iload 4, 2) := by decide +kernel
theorem dX8_lies_39 : decode cX8_lies 39 = .ok (.aload_n 0, 1) := by decide +kernel
theorem dX8_lies_40 : decode cX8_lies 40 = .ok (.getfield 7, 3) := by decide +kernel
theorem dX8_lies_43 : decode cX8_lies 43 = .ok (.iconst 0, 1) := by decide +kernel
theorem dX8_lies_44 : decode cX8_lies 44 = .ok (.iload 5, 2) := by decide +kernel
theorem dX8_lies_46 : decode cX8_lies 46 = .ok (.iadd, 1) := by decide +kernel
theorem dX8_lies_47 : decode cX8_lies 47 = .ok (.iaload, 1) := by decide +kernel
theorem dX8_lies_48 : decode cX8_lies 48 = .ok (.iload 5, 2) := by decide +kernel
theorem dX8_lies_50 : decode cX8_lies 50 = .ok (.iload_n 2, 1) := by decide +kernel
theorem dX8_lies_51 : decode cX8_lies 51 = .ok (.if_icmp .ne 7, 3) := by decide +kernel
theorem dX8_lies_54 : decode cX8_lies 54 = .ok (.iload_n 3, 1) := by decide +kernel
theorem dX8_lies_55 : decode cX8_lies 55 = .ok (.goto 4, 3) := by decide +kernel
theorem dX8_lies_58 : decode cX8_lies 58 = .ok (.iconst 0, 1) := by decide +kernel
theorem dX8_lies_59 : decode cX8_lies 59 = .ok (.isub, 1) := by decide +kernel
theorem dX8_lies_60 : decode cX8_lies 60 = .ok (.imul, 1) := by decide +kernel
theorem dX8_lies_61 : decode cX8_lies 61 = .ok (.iadd, 1) := by decide +kernel
theorem dX8_lies_62 : decode cX8_lies 62 = .ok (.iastore, 1) := by decide +kernel
theorem dX8_lies_63 : decode cX8_lies 63 = .ok (.iload_n 1, 1) := by decide +kernel
theorem dX8_lies_64 : decode cX8_lies 64 = .ok (.iload 5, 2) := by decide +kernel
theorem dX8_lies_66 : decode cX8_lies 66 = .ok (.invokestatic 81, 3) := by decide +kernel
theorem dX8_lies_69 : decode cX8_lies 69 = .ok (.ifCond .eq 9, 3) := by decide +kernel
theorem dX8_lies_72 : decode cX8_lies 72 = .ok (.iload 4, 2) := by decide +kernel
theorem dX8_lies_74 : decode cX8_lies 74 = .ok (.ineg, 1) := by decide +kernel
theorem dX8_lies_75 : decode cX8_lies 75 = .ok (.goto 5, 3) := by decide +kernel
theorem dX8_lies_78 : decode cX8_lies 78 = .ok (.iload 4, 2) := by decide +kernel
theorem dX8_lies_80 : decode cX8_lies 80 = .ok (.istore 4, 2) := by decide +kernel
theorem dX8_lies_82 : decode cX8_lies 82 = .ok (.iinc 5 1, 3) := by decide +kernel
theorem dX8_lies_85 : decode cX8_lies 85 = .ok (.goto (-72), 3) := by decide +kernel
theorem dX8_lies_88 : decode cX8_lies 88 = .ok (.return_, 1) := by decide +kernel
theorem dX8_lowest_0 : decode cX8_lowest 0 = .ok (.iconst 0, 1) := by decide +kernel
theorem dX8_lowest_1 : decode cX8_lowest 1 = .ok (.istore_n 1, 1) := by decide +kernel
theorem dX8_lowest_2 : decode cX8_lowest 2 = .ok (.iconst 0, 1) := by decide +kernel
theorem dX8_lowest_3 : decode cX8_lowest 3 = .ok (.istore_n 2, 1) := by decide +kernel
theorem dX8_lowest_4 : decode cX8_lowest 4 = .ok (.iload_n 2, 1) := by decide +kernel
theorem dX8_lowest_5 : decode cX8_lowest 5 = .ok (.aload_n 0, 1) := by decide +kernel
theorem dX8_lowest_6 : decode cX8_lowest 6 = .ok (.getfield 41, 3) := by decide +kernel
theorem dX8_lowest_9 : decode cX8_lowest 9 = .ok (.if_icmp .gt 30, 3) := by decide +kernel
theorem dX8_lowest_12 : decode cX8_lowest 12 = .ok (.aload_n 0, 1) := by decide +kernel
theorem dX8_lowest_13 : decode cX8_lowest 13 = .ok (.getfield 29, 3) := by decide +kernel
theorem dX8_lowest_16 : decode cX8_lowest 16 = .ok (.iload_n 2, 1) := by decide +kernel
theorem dX8_lowest_17 : decode cX8_lowest 17 = .ok (.iaload, 1) := by decide +kernel
theorem dX8_lowest_18 : decode cX8_lowest 18 = .ok (.iload_n 1, 1) := by decide +kernel
theorem dX8_lowest_19 : decode cX8_lowest 19 = .ok (.if_icmp .ge 12, 3) := by decide +kernel
theorem dX8_lowest_22 : decode cX8_lowest 22 = .ok (.aload_n 0, 1) := by decide +kernel
theorem dX8_lowest_23 : decode cX8_lowest 23 = .ok (.getfield 29, 3) := by decide +kernel
theorem dX8_lowest_26 : decode cX8_lowest 26 = .ok (.iload_n 2, 1) := by decide +kernel
theorem dX8_lowest_27 : decode cX8_lowest 27 = .ok (.iaload, 1) := by decide +kernel
theorem dX8_lowest_28 : decode cX8_lowest 28 = .ok (.goto 4, 3) := by decide +kernel
theorem dX8_lowest_31 : decode cX8_lowest 31 = .ok (.iload_n 1, 1) := by decide +kernel
theorem dX8_lowest_32 : decode cX8_lowest 32 = .ok (.istore_n 1, 1) := by decide +kernel
theorem dX8_lowest_33 : decode cX8_lowest 33 = .ok (.iinc 2 1, 3) := by decide +kernel
theorem dX8_lowest_36 : decode cX8_lowest 36 = .ok (.goto (-32), 3) := by decide +kernel
theorem dX8_lowest_39 : decode cX8_lowest 39 = .ok (.iload_n 1, 1) := by decide +kernel
theorem dX8_lowest_40 : decode cX8_lowest 40 = .ok (.ireturn, 1) := by decide +kernel
set_option maxRecDepth 20000 in
theorem ggX8_spanNow_X8_lowest : GoodIn wsX8_spanNow wsX8_lowest := goodIn_r _ [7, 1, 2, 8, 9, 10, 11, 12, 13, 14, 15, 16, 17, 18, 19, 20, 21, 22, 23, 24, 25, 26, 27, 28, 29] (by decide +kernel) (by decide +kernel)
set_option maxRecDepth 20000 in
theorem gX8_spanNow_X8_lowest : GoodIn wsX8_spanNow (wsV RX8 108 RX8 yX8_lowest wsX8_lowest) := goodIn_app (goodIn_of _ (by decide +kernel)) ggX8_spanNow_X8_lowest
theorem dX8_spanNow_0 : decode cX8_spanNow 0 = .ok (.iconst 0, 1) := by decide +kernel
theorem dX8_spanNow_1 : decode cX8_spanNow 1 = .ok (.istore_n 1, 1) := by decide +kernel
theorem dX8_spanNow_2 : decode cX8_spanNow 2 = .ok (.iconst 0, 1) := by decide +kernel
theorem dX8_spanNow_3 : decode cX8_spanNow 3 = .ok (.istore_n 2, 1) := by decide +kernel
theorem dX8_spanNow_4 : decode cX8_spanNow 4 = .ok (.iload_n 2, 1) := by decide +kernel
theorem dX8_spanNow_5 : decode cX8_spanNow 5 = .ok (.aload_n 0, 1) := by decide +kernel
theorem dX8_spanNow_6 : decode cX8_spanNow 6 = .ok (.getfield 41, 3) := by decide +kernel
theorem dX8_spanNow_9 : decode cX8_spanNow 9 = .ok (.if_icmp .gt 30, 3) := by decide +kernel
theorem dX8_spanNow_12 : decode cX8_spanNow 12 = .ok (.aload_n 0, 1) := by decide +kernel
theorem dX8_spanNow_13 : decode cX8_spanNow 13 = .ok (.getfield 29, 3) := by decide +kernel
theorem dX8_spanNow_16 : decode cX8_spanNow 16 = .ok (.iload_n 2, 1) := by decide +kernel
theorem dX8_spanNow_17 : decode cX8_spanNow 17 = .ok (.iaload, 1) := by decide +kernel
theorem dX8_spanNow_18 : decode cX8_spanNow 18 = .ok (.iload_n 1, 1) := by decide +kernel
theorem dX8_spanNow_19 : decode cX8_spanNow 19 = .ok (.if_icmp .le 12, 3) := by decide +kernel
theorem dX8_spanNow_22 : decode cX8_spanNow 22 = .ok (.aload_n 0, 1) := by decide +kernel
theorem dX8_spanNow_23 : decode cX8_spanNow 23 = .ok (.getfield 29, 3) := by decide +kernel
theorem dX8_spanNow_26 : decode cX8_spanNow 26 = .ok (.iload_n 2, 1) := by decide +kernel
theorem dX8_spanNow_27 : decode cX8_spanNow 27 = .ok (.iaload, 1) := by decide +kernel
theorem dX8_spanNow_28 : decode cX8_spanNow 28 = .ok (.goto 4, 3) := by decide +kernel
theorem dX8_spanNow_31 : decode cX8_spanNow 31 = .ok (.iload_n 1, 1) := by decide +kernel
theorem dX8_spanNow_32 : decode cX8_spanNow 32 = .ok (.istore_n 1, 1) := by decide +kernel
theorem dX8_spanNow_33 : decode cX8_spanNow 33 = .ok (.iinc 2 1, 3) := by decide +kernel
theorem dX8_spanNow_36 : decode cX8_spanNow 36 = .ok (.goto (-32), 3) := by decide +kernel
theorem dX8_spanNow_39 : decode cX8_spanNow 39 = .ok (.iload_n 1, 1) := by decide +kernel
theorem dX8_spanNow_40 : decode cX8_spanNow 40 = .ok (.aload_n 0, 1) := by decide +kernel
theorem dX8_spanNow_41 : decode cX8_spanNow 41 = .ok (.invokevirtual 108, 3) := by decide +kernel
theorem dX8_spanNow_44 : decode cX8_spanNow 44 = .ok (.isub, 1) := by decide +kernel
theorem dX8_spanNow_45 : decode cX8_spanNow 45 = .ok (.ireturn, 1) := by decide +kernel
set_option maxRecDepth 20000 in
theorem ggX8_spanBy_X8_lies : GoodIn wsX8_spanBy wsX8_lies := goodIn_r _ [5, 6, 7, 8, 9, 10, 4, 11, 20, 21, 22, 23, 24, 25, 26, 27, 28, 29, 30, 31, 32, 33, 34, 35, 36, 37, 38, 39, 40, 41] (by decide +kernel) (by decide +kernel)
set_option maxRecDepth 20000 in
theorem gX8_spanBy_X8_lies : GoodIn wsX8_spanBy (wsV RX8 111 RX8 yX8_lies wsX8_lies) := goodIn_app (goodIn_of _ (by decide +kernel)) ggX8_spanBy_X8_lies
set_option maxRecDepth 20000 in
theorem ggX8_spanBy_X8_spanNow : GoodIn wsX8_spanBy wsX8_spanNow := goodIn_r _ [15, 7, 6, 16, 17, 18, 4, 19, 20, 21, 22, 23, 24, 25, 26, 27, 28, 29, 30, 31, 32, 33, 34, 35, 36, 37, 38, 39, 40, 41] (by decide +kernel) (by decide +kernel)
set_option maxRecDepth 20000 in
theorem gX8_spanBy_X8_spanNow : GoodIn wsX8_spanBy (wsV RX8 115 RX8 yX8_spanNow wsX8_spanNow) := goodIn_app (goodIn_of _ (by decide +kernel)) ggX8_spanBy_X8_spanNow
theorem dX8_spanBy_0 : decode cX8_spanBy 0 = .ok (.aload_n 0, 1) := by decide +kernel
theorem dX8_spanBy_1 : decode cX8_spanBy 1 = .ok (.iload_n 1, 1) := by decide +kernel
theorem dX8_spanBy_2 : decode cX8_spanBy 2 = .ok (.bipush (-9), 2) := by decide +kernel
theorem dX8_spanBy_4 : decode cX8_spanBy 4 = .ok (.iconst 0, 1) := by decide +kernel
theorem dX8_spanBy_5 : decode cX8_spanBy 5 = .ok (.invokevirtual 111, 3) := by decide +kernel
theorem dX8_spanBy_8 : decode cX8_spanBy 8 = .ok (.aload_n 0, 1) := by decide +kernel
theorem dX8_spanBy_9 : decode cX8_spanBy 9 = .ok (.invokevirtual 115, 3) := by decide +kernel
theorem dX8_spanBy_12 : decode cX8_spanBy 12 = .ok (.ireturn, 1) := by decide +kernel
theorem dX8_isOver_0 : decode cX8_isOver 0 = .ok (.aload_n 0, 1) := by decide +kernel
theorem dX8_isOver_1 : decode cX8_isOver 1 = .ok (.getfield 29, 3) := by decide +kernel
theorem dX8_isOver_4 : decode cX8_isOver 4 = .ok (.iload_n 1, 1) := by decide +kernel
theorem dX8_isOver_5 : decode cX8_isOver 5 = .ok (.iaload, 1) := by decide +kernel
theorem dX8_isOver_6 : decode cX8_isOver 6 = .ok (.istore_n 3, 1) := by decide +kernel
theorem dX8_isOver_7 : decode cX8_isOver 7 = .ok (.aload_n 0, 1) := by decide +kernel
theorem dX8_isOver_8 : decode cX8_isOver 8 = .ok (.getfield 29, 3) := by decide +kernel
theorem dX8_isOver_11 : decode cX8_isOver 11 = .ok (.iload_n 1, 1) := by decide +kernel
theorem dX8_isOver_12 : decode cX8_isOver 12 = .ok (.iconst 1, 1) := by decide +kernel
theorem dX8_isOver_13 : decode cX8_isOver 13 = .ok (.iadd, 1) := by decide +kernel
theorem dX8_isOver_14 : decode cX8_isOver 14 = .ok (.iaload, 1) := by decide +kernel
theorem dX8_isOver_15 : decode cX8_isOver 15 = .ok (.istore 4, 2) := by decide +kernel
theorem dX8_isOver_17 : decode cX8_isOver 17 = .ok (.iload_n 3, 1) := by decide +kernel
theorem dX8_isOver_18 : decode cX8_isOver 18 = .ok (.iload 4, 2) := by decide +kernel
theorem dX8_isOver_20 : decode cX8_isOver 20 = .ok (.if_icmp .ge 22, 3) := by decide +kernel
theorem dX8_isOver_23 : decode cX8_isOver 23 = .ok (.iload_n 2, 1) := by decide +kernel
theorem dX8_isOver_24 : decode cX8_isOver 24 = .ok (.iload_n 3, 1) := by decide +kernel
theorem dX8_isOver_25 : decode cX8_isOver 25 = .ok (.if_icmp .lt 13, 3) := by decide +kernel
theorem dX8_isOver_28 : decode cX8_isOver 28 = .ok (.iload_n 2, 1) := by decide +kernel
theorem dX8_isOver_29 : decode cX8_isOver 29 = .ok (.iload 4, 2) := by decide +kernel
theorem dX8_isOver_31 : decode cX8_isOver 31 = .ok (.if_icmp .ge 7, 3) := by decide +kernel
theorem dX8_isOver_34 : decode cX8_isOver 34 = .ok (.iconst 1, 1) := by decide +kernel
theorem dX8_isOver_35 : decode cX8_isOver 35 = .ok (.goto 23, 3) := by decide +kernel
theorem dX8_isOver_38 : decode cX8_isOver 38 = .ok (.iconst 0, 1) := by decide +kernel
theorem dX8_isOver_39 : decode cX8_isOver 39 = .ok (.goto 19, 3) := by decide +kernel
theorem dX8_isOver_42 : decode cX8_isOver 42 = .ok (.iload_n 2, 1) := by decide +kernel
theorem dX8_isOver_43 : decode cX8_isOver 43 = .ok (.iload 4, 2) := by decide +kernel
theorem dX8_isOver_45 : decode cX8_isOver 45 = .ok (.if_icmp .lt 12, 3) := by decide +kernel
theorem dX8_isOver_48 : decode cX8_isOver 48 = .ok (.iload_n 2, 1) := by decide +kernel
theorem dX8_isOver_49 : decode cX8_isOver 49 = .ok (.iload_n 3, 1) := by decide +kernel
theorem dX8_isOver_50 : decode cX8_isOver 50 = .ok (.if_icmp .ge 7, 3) := by decide +kernel
theorem dX8_isOver_53 : decode cX8_isOver 53 = .ok (.iconst 1, 1) := by decide +kernel
theorem dX8_isOver_54 : decode cX8_isOver 54 = .ok (.goto 4, 3) := by decide +kernel
theorem dX8_isOver_57 : decode cX8_isOver 57 = .ok (.iconst 0, 1) := by decide +kernel
theorem dX8_isOver_58 : decode cX8_isOver 58 = .ok (.ireturn, 1) := by decide +kernel
set_option maxRecDepth 20000 in
theorem ggX8_stack_X8_spanBy : GoodIn wsX8_stack wsX8_spanBy := goodIn_r _ [7, 8, 9, 10, 6, 11, 12, 2, 1, 13, 14, 15, 16, 17, 18, 19, 20, 21, 22, 23, 28, 29, 30, 31, 32, 33, 34, 35, 36, 37, 38, 39, 40, 41, 42, 43, 44, 45, 46, 47, 48, 49] (by decide +kernel) (by decide +kernel)
set_option maxRecDepth 20000 in
theorem gX8_stack_X8_spanBy : GoodIn wsX8_stack (wsV RX8 118 RX8 yX8_spanBy wsX8_spanBy) := goodIn_app (goodIn_of _ (by decide +kernel)) ggX8_stack_X8_spanBy
set_option maxRecDepth 20000 in
theorem ggX8_stack_X8_lowest : GoodIn wsX8_stack wsX8_lowest := goodIn_r _ [23, 2, 12, 28, 29, 30, 31, 32, 33, 34, 35, 36, 37, 38, 39, 40, 41, 42, 43, 44, 45, 46, 47, 48, 49] (by decide +kernel) (by decide +kernel)
set_option maxRecDepth 20000 in
theorem gX8_stack_X8_lowest : GoodIn wsX8_stack (wsV RX8 108 RX8 yX8_lowest wsX8_lowest) := goodIn_app (goodIn_of _ (by decide +kernel)) ggX8_stack_X8_lowest
set_option maxRecDepth 20000 in
theorem ggX8_stack_X8_isOver : GoodIn wsX8_stack wsX8_isOver := goodIn_r _ [27, 12, 28, 29, 30, 31, 32, 33, 34, 35, 36, 37, 38, 39, 40, 41, 42, 43, 44, 45, 46, 47, 48, 49] (by decide +kernel) (by decide +kernel)
set_option maxRecDepth 20000 in
theorem gX8_stack_X8_isOver : GoodIn wsX8_stack (wsV RX8 122 RX8 yX8_isOver wsX8_isOver) := goodIn_app (goodIn_of _ (by decide +kernel)) ggX8_stack_X8_isOver
theorem dX8_stack_0 : decode cX8_stack 0 = .ok (.aload_n 0, 1) := by decide +kernel
theorem dX8_stack_1 : decode cX8_stack 1 = .ok (.aload_n 0, 1) := by decide +kernel
theorem dX8_stack_2 : decode cX8_stack 2 = .ok (.getfield 7, 3) := by decide +kernel
theorem dX8_stack_5 : decode cX8_stack 5 = .ok (.bipush 9, 2) := by decide +kernel
theorem dX8_stack_7 : decode cX8_stack 7 = .ok (.iaload, 1) := by decide +kernel
theorem dX8_stack_8 : decode cX8_stack 8 = .ok (.invokevirtual 118, 3) := by decide +kernel
theorem dX8_stack_11 : decode cX8_stack 11 = .ok (.istore_n 1, 1) := by decide +kernel
theorem dX8_stack_12 : decode cX8_stack 12 = .ok (.aload_n 0, 1) := by decide +kernel
theorem dX8_stack_13 : decode cX8_stack 13 = .ok (.invokevirtual 108, 3) := by decide +kernel
theorem dX8_stack_16 : decode cX8_stack 16 = .ok (.istore_n 2, 1) := by decide +kernel
theorem dX8_stack_17 : decode cX8_stack 17 = .ok (.iconst 0, 1) := by decide +kernel
theorem dX8_stack_18 : decode cX8_stack 18 = .ok (.istore_n 3, 1) := by decide +kernel
theorem dX8_stack_19 : decode cX8_stack 19 = .ok (.iload_n 2, 1) := by decide +kernel
theorem dX8_stack_20 : decode cX8_stack 20 = .ok (.istore 4, 2) := by decide +kernel
theorem dX8_stack_22 : decode cX8_stack 22 = .ok (.iload 4, 2) := by decide +kernel
theorem dX8_stack_24 : decode cX8_stack 24 = .ok (.iload_n 2, 1) := by decide +kernel
theorem dX8_stack_25 : decode cX8_stack 25 = .ok (.iload_n 1, 1) := by decide +kernel
theorem dX8_stack_26 : decode cX8_stack 26 = .ok (.iadd, 1) := by decide +kernel
theorem dX8_stack_27 : decode cX8_stack 27 = .ok (.if_icmp .ge 64, 3) := by decide +kernel
theorem dX8_stack_30 : decode cX8_stack 30 = .ok (.iconst 0, 1) := by decide +kernel
theorem dX8_stack_31 : decode cX8_stack 31 = .ok (.istore 5, 2) := by decide +kernel
theorem dX8_stack_33 : decode cX8_stack 33 = .ok (.iconst 0, 1) := by decide +kernel
theorem dX8_stack_34 : decode cX8_stack 34 = .ok (.istore 6, 2) := by decide +kernel
theorem dX8_stack_36 : decode cX8_stack 36 = .ok (.iload 6, 2) := by decide +kernel
theorem dX8_stack_38 : decode cX8_stack 38 = .ok (.aload_n 0, 1) := by decide +kernel
theorem dX8_stack_39 : decode cX8_stack 39 = .ok (.getfield 41, 3) := by decide +kernel
theorem dX8_stack_42 : decode cX8_stack 42 = .ok (.if_icmp .ge 30, 3) := by decide +kernel
theorem dX8_stack_45 : decode cX8_stack 45 = .ok (.iload 5, 2) := by decide +kernel
theorem dX8_stack_47 : decode cX8_stack 47 = .ok (.aload_n 0, 1) := by decide +kernel
theorem dX8_stack_48 : decode cX8_stack 48 = .ok (.iload 6, 2) := by decide +kernel
theorem dX8_stack_50 : decode cX8_stack 50 = .ok (.iload 4, 2) := by decide +kernel
theorem dX8_stack_52 : decode cX8_stack 52 = .ok (.invokevirtual 122, 3) := by decide +kernel
theorem dX8_stack_55 : decode cX8_stack 55 = .ok (.ifCond .eq 7, 3) := by decide +kernel
theorem dX8_stack_58 : decode cX8_stack 58 = .ok (.iconst 1, 1) := by decide +kernel
theorem dX8_stack_59 : decode cX8_stack 59 = .ok (.goto 4, 3) := by decide +kernel
theorem dX8_stack_62 : decode cX8_stack 62 = .ok (.iconst 0, 1) := by decide +kernel
theorem dX8_stack_63 : decode cX8_stack 63 = .ok (.iadd, 1) := by decide +kernel
theorem dX8_stack_64 : decode cX8_stack 64 = .ok (.istore 5, 2) := by decide +kernel
theorem dX8_stack_66 : decode cX8_stack 66 = .ok (.iinc 6 1, 3) := by decide +kernel
theorem dX8_stack_69 : decode cX8_stack 69 = .ok (.goto (-33), 3) := by decide +kernel
theorem dX8_stack_72 : decode cX8_stack 72 = .ok (.iload 5, 2) := by decide +kernel
theorem dX8_stack_74 : decode cX8_stack 74 = .ok (.iload_n 3, 1) := by decide +kernel
theorem dX8_stack_75 : decode cX8_stack 75 = .ok (.if_icmp .le 8, 3) := by decide +kernel
theorem dX8_stack_78 : decode cX8_stack 78 = .ok (.iload 5, 2) := by decide +kernel
theorem dX8_stack_80 : decode cX8_stack 80 = .ok (.goto 4, 3) := by decide +kernel
theorem dX8_stack_83 : decode cX8_stack 83 = .ok (.iload_n 3, 1) := by decide +kernel
theorem dX8_stack_84 : decode cX8_stack 84 = .ok (.istore_n 3, 1) := by decide +kernel
theorem dX8_stack_85 : decode cX8_stack 85 = .ok (.iinc 4 1, 3) := by decide +kernel
theorem dX8_stack_88 : decode cX8_stack 88 = .ok (.goto (-66), 3) := by decide +kernel
theorem dX8_stack_91 : decode cX8_stack 91 = .ok (.iload_n 3, 1) := by decide +kernel
theorem dX8_stack_92 : decode cX8_stack 92 = .ok (.ireturn, 1) := by decide +kernel
set_option maxRecDepth 20000 in
theorem ggX8_othersOver_X8_spanBy : GoodIn wsX8_othersOver wsX8_spanBy := goodIn_r _ [7, 8, 9, 10, 6, 11, 12, 2, 1, 13, 14, 15, 16, 17, 18, 19, 20, 21, 22, 23, 28, 29, 30, 31, 32, 33, 34, 35, 36, 37, 38, 39, 40, 41, 42, 43, 44, 45, 46, 47, 48, 49] (by decide +kernel) (by decide +kernel)
set_option maxRecDepth 20000 in
theorem gX8_othersOver_X8_spanBy : GoodIn wsX8_othersOver (wsV RX8 118 RX8 yX8_spanBy wsX8_spanBy) := goodIn_app (goodIn_of _ (by decide +kernel)) ggX8_othersOver_X8_spanBy
set_option maxRecDepth 20000 in
theorem ggX8_othersOver_X8_lowest : GoodIn wsX8_othersOver wsX8_lowest := goodIn_r _ [23, 2, 12, 28, 29, 30, 31, 32, 33, 34, 35, 36, 37, 38, 39, 40, 41, 42, 43, 44, 45, 46, 47, 48, 49] (by decide +kernel) (by decide +kernel)
set_option maxRecDepth 20000 in
theorem gX8_othersOver_X8_lowest : GoodIn wsX8_othersOver (wsV RX8 108 RX8 yX8_lowest wsX8_lowest) := goodIn_app (goodIn_of _ (by decide +kernel)) ggX8_othersOver_X8_lowest
set_option maxRecDepth 20000 in
theorem ggX8_othersOver_X8_isOver : GoodIn wsX8_othersOver wsX8_isOver := goodIn_r _ [27, 12, 28, 29, 30, 31, 32, 33, 34, 35, 36, 37, 38, 39, 40, 41, 42, 43, 44, 45, 46, 47, 48, 49] (by decide +kernel) (by decide +kernel)
set_option maxRecDepth 20000 in
theorem gX8_othersOver_X8_isOver : GoodIn wsX8_othersOver (wsV RX8 122 RX8 yX8_isOver wsX8_isOver) := goodIn_app (goodIn_of _ (by decide +kernel)) ggX8_othersOver_X8_isOver
theorem dX8_othersOver_0 : decode cX8_othersOver 0 = .ok (.aload_n 0, 1) := by decide +kernel
theorem dX8_othersOver_1 : decode cX8_othersOver 1 = .ok (.aload_n 0, 1) := by decide +kernel
theorem dX8_othersOver_2 : decode cX8_othersOver 2 = .ok (.getfield 7, 3) := by decide +kernel
theorem dX8_othersOver_5 : decode cX8_othersOver 5 = .ok (.bipush 9, 2) := by decide +kernel
theorem dX8_othersOver_7 : decode cX8_othersOver 7 = .ok (.iaload, 1) := by decide +kernel
theorem dX8_othersOver_8 : decode cX8_othersOver 8 = .ok (.invokevirtual 118, 3) := by decide +kernel
theorem dX8_othersOver_11 : decode cX8_othersOver 11 = .ok (.istore_n 2, 1) := by decide +kernel
theorem dX8_othersOver_12 : decode cX8_othersOver 12 = .ok (.aload_n 0, 1) := by decide +kernel
theorem dX8_othersOver_13 : decode cX8_othersOver 13 = .ok (.invokevirtual 108, 3) := by decide +kernel
theorem dX8_othersOver_16 : decode cX8_othersOver 16 = .ok (.istore_n 3, 1) := by decide +kernel
theorem dX8_othersOver_17 : decode cX8_othersOver 17 = .ok (.iconst 0, 1) := by decide +kernel
theorem dX8_othersOver_18 : decode cX8_othersOver 18 = .ok (.istore 4, 2) := by decide +kernel
theorem dX8_othersOver_20 : decode cX8_othersOver 20 = .ok (.iconst 0, 1) := by decide +kernel
theorem dX8_othersOver_21 : decode cX8_othersOver 21 = .ok (.istore 5, 2) := by decide +kernel
theorem dX8_othersOver_23 : decode cX8_othersOver 23 = .ok (.iload 5, 2) := by decide +kernel
theorem dX8_othersOver_25 : decode cX8_othersOver 25 = .ok (.aload_n 0, 1) := by decide +kernel
theorem dX8_othersOver_26 : decode cX8_othersOver 26 = .ok (.getfield 41, 3) := by decide +kernel
theorem dX8_othersOver_29 : decode cX8_othersOver 29 = .ok (.if_icmp .ge 83, 3) := by decide +kernel
theorem dX8_othersOver_32 : decode cX8_othersOver 32 = .ok (.iconst 0, 1) := by decide +kernel
theorem dX8_othersOver_33 : decode cX8_othersOver 33 = .ok (.istore 6, 2) := by decide +kernel
theorem dX8_othersOver_35 : decode cX8_othersOver 35 = .ok (.iload_n 3, 1) := by decide +kernel
theorem dX8_othersOver_36 : decode cX8_othersOver 36 = .ok (.istore 7, 2) := by decide +kernel
theorem dX8_othersOver_38 : decode cX8_othersOver 38 = .ok (.iload 7, 2) := by decide +kernel
theorem dX8_othersOver_40 : decode cX8_othersOver 40 = .ok (.iload_n 3, 1) := by decide +kernel
theorem dX8_othersOver_41 : decode cX8_othersOver 41 = .ok (.iload_n 2, 1) := by decide +kernel
theorem dX8_othersOver_42 : decode cX8_othersOver 42 = .ok (.iadd, 1) := by decide +kernel
theorem dX8_othersOver_43 : decode cX8_othersOver 43 = .ok (.if_icmp .ge 42, 3) := by decide +kernel
theorem dX8_othersOver_46 : decode cX8_othersOver 46 = .ok (.iload 6, 2) := by decide +kernel
theorem dX8_othersOver_48 : decode cX8_othersOver 48 = .ok (.ifCond .ne 24, 3) := by decide +kernel
theorem dX8_othersOver_51 : decode cX8_othersOver 51 = .ok (.aload_n 0, 1) := by decide +kernel
theorem dX8_othersOver_52 : decode cX8_othersOver 52 = .ok (.iload 5, 2) := by decide +kernel
theorem dX8_othersOver_54 : decode cX8_othersOver 54 = .ok (.iload 7, 2) := by decide +kernel
theorem dX8_othersOver_56 : decode cX8_othersOver 56 = .ok (.invokevirtual 122, 3) := by decide +kernel
theorem dX8_othersOver_59 : decode cX8_othersOver 59 = .ok (.ifCond .eq 17, 3) := by decide +kernel
theorem dX8_othersOver_62 : decode cX8_othersOver 62 = .ok (.aload_n 0, 1) := by decide +kernel
theorem dX8_othersOver_63 : decode cX8_othersOver 63 = .ok (.iload_n 1, 1) := by decide +kernel
theorem dX8_othersOver_64 : decode cX8_othersOver 64 = .ok (.iload 7, 2) := by decide +kernel
theorem dX8_othersOver_66 : decode cX8_othersOver 66 = .ok (.invokevirtual 122, 3) := by decide +kernel
theorem dX8_othersOver_69 : decode cX8_othersOver 69 = .ok (.ifCond .eq 7, 3) := by decide +kernel
theorem dX8_othersOver_72 : decode cX8_othersOver 72 = .ok (.iconst 1, 1) := by decide +kernel
theorem dX8_othersOver_73 : decode cX8_othersOver 73 = .ok (.goto 4, 3) := by decide +kernel
theorem dX8_othersOver_76 : decode cX8_othersOver 76 = .ok (.iconst 0, 1) := by decide +kernel
theorem dX8_othersOver_77 : decode cX8_othersOver 77 = .ok (.istore 6, 2) := by decide +kernel
theorem dX8_othersOver_79 : decode cX8_othersOver 79 = .ok (.iinc 7 1, 3) := by decide +kernel
theorem dX8_othersOver_82 : decode cX8_othersOver 82 = .ok (.goto (-44), 3) := by decide +kernel
theorem dX8_othersOver_85 : decode cX8_othersOver 85 = .ok (.iload 4, 2) := by decide +kernel
theorem dX8_othersOver_87 : decode cX8_othersOver 87 = .ok (.iload 5, 2) := by decide +kernel
theorem dX8_othersOver_89 : decode cX8_othersOver 89 = .ok (.iload_n 1, 1) := by decide +kernel
theorem dX8_othersOver_90 : decode cX8_othersOver 90 = .ok (.if_icmp .eq 12, 3) := by decide +kernel
theorem dX8_othersOver_93 : decode cX8_othersOver 93 = .ok (.iload 6, 2) := by decide +kernel
theorem dX8_othersOver_95 : decode cX8_othersOver 95 = .ok (.ifCond .eq 7, 3) := by decide +kernel
theorem dX8_othersOver_98 : decode cX8_othersOver 98 = .ok (.iconst 1, 1) := by decide +kernel
theorem dX8_othersOver_99 : decode cX8_othersOver 99 = .ok (.goto 4, 3) := by decide +kernel
theorem dX8_othersOver_102 : decode cX8_othersOver 102 = .ok (.iconst 0, 1) := by decide +kernel
theorem dX8_othersOver_103 : decode cX8_othersOver 103 = .ok (.iadd, 1) := by decide +kernel
theorem dX8_othersOver_104 : decode cX8_othersOver 104 = .ok (.istore 4, 2) := by decide +kernel
theorem dX8_othersOver_106 : decode cX8_othersOver 106 = .ok (.iinc 5 1, 3) := by decide +kernel
theorem dX8_othersOver_109 : decode cX8_othersOver 109 = .ok (.goto (-86), 3) := by decide +kernel
theorem dX8_othersOver_112 : decode cX8_othersOver 112 = .ok (.iload 4, 2) := by decide +kernel
theorem dX8_othersOver_114 : decode cX8_othersOver 114 = .ok (.ireturn, 1) := by decide +kernel
set_option maxRecDepth 20000 in
theorem ggX8_link_X8_isLink : GoodIn wsX8_link wsX8_isLink := goodIn_r _ [6, 7, 8, 9, 5, 10, 39, 40, 41, 42, 43, 44, 45, 46, 47, 48, 49, 50, 51, 52, 53, 54, 55, 56, 57, 58, 59, 60] (by decide +kernel) (by decide +kernel)
set_option maxRecDepth 20000 in
theorem gX8_link_X8_isLink : GoodIn wsX8_link (wsV RX8 125 RX8 yX8_isLink wsX8_isLink) := goodIn_app (goodIn_of _ (by decide +kernel)) ggX8_link_X8_isLink
set_option maxRecDepth 20000 in
theorem ggX8_link_X8_in : GoodIn wsX8_link wsX8_in := goodIn_r _ [10] (by decide +kernel) (by decide +kernel)
set_option maxRecDepth 20000 in
theorem gX8_link_X8_in : GoodIn wsX8_link (va_wsS RX8 45 yX8_in wsX8_in) := goodIn_app (goodIn_of _ (by decide +kernel)) ggX8_link_X8_in
set_option maxRecDepth 20000 in
theorem ggX8_link_X8_othersOver : GoodIn wsX8_link wsX8_othersOver := goodIn_r _ [14, 1, 7, 15, 16, 17, 5, 18, 19, 20, 21, 22, 23, 24, 25, 26, 27, 28, 29, 30, 31, 32, 33, 34, 35, 36, 37, 38, 39, 40, 41, 42, 43, 44, 45, 46, 47, 48, 49, 50, 51, 52, 53, 54, 55, 56, 57, 58, 59, 60] (by decide +kernel) (by decide +kernel)
set_option maxRecDepth 20000 in
theorem gX8_link_X8_othersOver : GoodIn wsX8_link (wsV RX8 128 RX8 yX8_othersOver wsX8_othersOver) := goodIn_app (goodIn_of _ (by decide +kernel)) ggX8_link_X8_othersOver
theorem dX8_link_0 : decode cX8_link 0 = .ok (.aload_n 0, 1) := by decide +kernel
theorem dX8_link_1 : decode cX8_link 1 = .ok (.iload_n 1, 1) := by decide +kernel
theorem dX8_link_2 : decode cX8_link 2 = .ok (.invokevirtual 125, 3) := by decide +kernel
theorem dX8_link_5 : decode cX8_link 5 = .ok (.ifCond .eq 12, 3) := by decide +kernel
theorem dX8_link_8 : decode cX8_link 8 = .ok (.iload_n 2, 1) := by decide +kernel
theorem dX8_link_9 : decode cX8_link 9 = .ok (.iconst 0, 1) := by decide +kernel
theorem dX8_link_10 : decode cX8_link 10 = .ok (.iconst 1, 1) := by decide +kernel
theorem dX8_link_11 : decode cX8_link 11 = .ok (.invokestatic 45, 3) := by decide +kernel
theorem dX8_link_14 : decode cX8_link 14 = .ok (.ifCond .ne 7, 3) := by decide +kernel
theorem dX8_link_17 : decode cX8_link 17 = .ok (.iconst (-1), 1) := by decide +kernel
theorem dX8_link_18 : decode cX8_link 18 = .ok (.goto 23, 3) := by decide +kernel
theorem dX8_link_21 : decode cX8_link 21 = .ok (.iload_n 2, 1) := by decide +kernel
theorem dX8_link_22 : decode cX8_link 22 = .ok (.ifCond .ne 14, 3) := by decide +kernel
theorem dX8_link_25 : decode cX8_link 25 = .ok (.aload_n 0, 1) := by decide +kernel
theorem dX8_link_26 : decode cX8_link 26 = .ok (.getfield 7, 3) := by decide +kernel
theorem dX8_link_29 : decode cX8_link 29 = .ok (.iconst 0, 1) := by decide +kernel
theorem dX8_link_30 : decode cX8_link 30 = .ok (.iload_n 1, 1) := by decide +kernel
theorem dX8_link_31 : decode cX8_link 31 = .ok (.iadd, 1) := by decide +kernel
theorem dX8_link_32 : decode cX8_link 32 = .ok (.iaload, 1) := by decide +kernel
theorem dX8_link_33 : decode cX8_link 33 = .ok (.goto 8, 3) := by decide +kernel
theorem dX8_link_36 : decode cX8_link 36 = .ok (.aload_n 0, 1) := by decide +kernel
theorem dX8_link_37 : decode cX8_link 37 = .ok (.iload_n 1, 1) := by decide +kernel
theorem dX8_link_38 : decode cX8_link 38 = .ok (.invokevirtual 128, 3) := by decide +kernel
theorem dX8_link_41 : decode cX8_link 41 = .ok (.ireturn, 1) := by decide +kernel
set_option maxRecDepth 20000 in
theorem ggX8_joint_X8_isJoint : GoodIn wsX8_joint wsX8_isJoint := goodIn_r _ [6, 7, 8, 9, 5, 10, 11, 12, 13, 14, 15, 16, 17, 18, 19, 20, 21, 22, 23, 24, 25, 26, 27, 28, 29, 30, 31, 32] (by decide +kernel) (by decide +kernel)
set_option maxRecDepth 20000 in
theorem gX8_joint_X8_isJoint : GoodIn wsX8_joint (wsV RX8 131 RX8 yX8_isJoint wsX8_isJoint) := goodIn_app (goodIn_of _ (by decide +kernel)) ggX8_joint_X8_isJoint
set_option maxRecDepth 20000 in
theorem ggX8_joint_X8_in : GoodIn wsX8_joint wsX8_in := goodIn_r _ [10] (by decide +kernel) (by decide +kernel)
set_option maxRecDepth 20000 in
theorem gX8_joint_X8_in : GoodIn wsX8_joint (va_wsS RX8 45 yX8_in wsX8_in) := goodIn_app (goodIn_of _ (by decide +kernel)) ggX8_joint_X8_in
theorem dX8_joint_0 : decode cX8_joint 0 = .ok (.aload_n 0, 1) := by decide +kernel
theorem dX8_joint_1 : decode cX8_joint 1 = .ok (.iload_n 1, 1) := by decide +kernel
theorem dX8_joint_2 : decode cX8_joint 2 = .ok (.invokevirtual 131, 3) := by decide +kernel
theorem dX8_joint_5 : decode cX8_joint 5 = .ok (.ifCond .eq 12, 3) := by decide +kernel
theorem dX8_joint_8 : decode cX8_joint 8 = .ok (.iload_n 2, 1) := by decide +kernel
theorem dX8_joint_9 : decode cX8_joint 9 = .ok (.iconst 0, 1) := by decide +kernel
theorem dX8_joint_10 : decode cX8_joint 10 = .ok (.iconst 1, 1) := by decide +kernel
theorem dX8_joint_11 : decode cX8_joint 11 = .ok (.invokestatic 45, 3) := by decide +kernel
theorem dX8_joint_14 : decode cX8_joint 14 = .ok (.ifCond .ne 7, 3) := by decide +kernel
theorem dX8_joint_17 : decode cX8_joint 17 = .ok (.iconst (-1), 1) := by decide +kernel
theorem dX8_joint_18 : decode cX8_joint 18 = .ok (.goto 23, 3) := by decide +kernel
theorem dX8_joint_21 : decode cX8_joint 21 = .ok (.aload_n 0, 1) := by decide +kernel
theorem dX8_joint_22 : decode cX8_joint 22 = .ok (.getfield 7, 3) := by decide +kernel
theorem dX8_joint_25 : decode cX8_joint 25 = .ok (.iload_n 2, 1) := by decide +kernel
theorem dX8_joint_26 : decode cX8_joint 26 = .ok (.ifCond .ne 8, 3) := by decide +kernel
theorem dX8_joint_29 : decode cX8_joint 29 = .ok (.bipush 9, 2) := by decide +kernel
theorem dX8_joint_31 : decode cX8_joint 31 = .ok (.goto 5, 3) := by decide +kernel
theorem dX8_joint_34 : decode cX8_joint 34 = .ok (.bipush 10, 2) := by decide +kernel
theorem dX8_joint_36 : decode cX8_joint 36 = .ok (.iaload, 1) := by decide +kernel
theorem dX8_joint_37 : decode cX8_joint 37 = .ok (.iload_n 1, 1) := by decide +kernel
theorem dX8_joint_38 : decode cX8_joint 38 = .ok (.ishr, 1) := by decide +kernel
theorem dX8_joint_39 : decode cX8_joint 39 = .ok (.iconst 1, 1) := by decide +kernel
theorem dX8_joint_40 : decode cX8_joint 40 = .ok (.iand, 1) := by decide +kernel
theorem dX8_joint_41 : decode cX8_joint 41 = .ok (.ireturn, 1) := by decide +kernel
set_option maxRecDepth 20000 in
theorem ggX8_mark_X8_in : GoodIn wsX8_mark wsX8_in := goodIn_r _ [8] (by decide +kernel) (by decide +kernel)
set_option maxRecDepth 20000 in
theorem gX8_mark_X8_in : GoodIn wsX8_mark (va_wsS RX8 45 yX8_in wsX8_in) := goodIn_app (goodIn_of _ (by decide +kernel)) ggX8_mark_X8_in
set_option maxRecDepth 20000 in
theorem ggX8_mark_X8_lies : GoodIn wsX8_mark wsX8_lies := goodIn_r _ [12, 4, 1, 3, 13, 14, 7, 15, 16, 17, 18, 19, 20, 21, 22, 23, 24, 25, 26, 27, 28, 29, 30, 31, 32, 33, 34, 35, 36, 37] (by decide +kernel) (by decide +kernel)
set_option maxRecDepth 20000 in
theorem gX8_mark_X8_lies : GoodIn wsX8_mark (wsV RX8 111 RX8 yX8_lies wsX8_lies) := goodIn_app (goodIn_of _ (by decide +kernel)) ggX8_mark_X8_lies
theorem dX8_mark_0 : decode cX8_mark 0 = .ok (.iload_n 1, 1) := by decide +kernel
theorem dX8_mark_1 : decode cX8_mark 1 = .ok (.iconst 0, 1) := by decide +kernel
theorem dX8_mark_2 : decode cX8_mark 2 = .ok (.aload_n 0, 1) := by decide +kernel
theorem dX8_mark_3 : decode cX8_mark 3 = .ok (.getfield 41, 3) := by decide +kernel
theorem dX8_mark_6 : decode cX8_mark 6 = .ok (.invokestatic 45, 3) := by decide +kernel
theorem dX8_mark_9 : decode cX8_mark 9 = .ok (.ifCond .ne 6, 3) := by decide +kernel
theorem dX8_mark_12 : decode cX8_mark 12 = .ok (.ldc 134, 2) := by decide +kernel
theorem dX8_mark_14 : decode cX8_mark 14 = .ok (.ireturn, 1) := by decide +kernel
theorem dX8_mark_15 : decode cX8_mark 15 = .ok (.aload_n 0, 1) := by decide +kernel
theorem dX8_mark_16 : decode cX8_mark 16 = .ok (.aload_n 0, 1) := by decide +kernel
theorem dX8_mark_17 : decode cX8_mark 17 = .ok (.getfield 7, 3) := by decide +kernel
theorem dX8_mark_20 : decode cX8_mark 20 = .ok (.bipush 9, 2) := by decide +kernel
theorem dX8_mark_22 : decode cX8_mark 22 = .ok (.iaload, 1) := by decide +kernel
theorem dX8_mark_23 : decode cX8_mark 23 = .ok (.bipush (-9), 2) := by decide +kernel
theorem dX8_mark_25 : decode cX8_mark 25 = .ok (.iconst 0, 1) := by decide +kernel
theorem dX8_mark_26 : decode cX8_mark 26 = .ok (.invokevirtual 111, 3) := by decide +kernel
theorem dX8_mark_29 : decode cX8_mark 29 = .ok (.aload_n 0, 1) := by decide +kernel
theorem dX8_mark_30 : decode cX8_mark 30 = .ok (.getfield 29, 3) := by decide +kernel
theorem dX8_mark_33 : decode cX8_mark 33 = .ok (.iload_n 1, 1) := by decide +kernel
theorem dX8_mark_34 : decode cX8_mark 34 = .ok (.iaload, 1) := by decide +kernel
theorem dX8_mark_35 : decode cX8_mark 35 = .ok (.ireturn, 1) := by decide +kernel
theorem dX8_folds_0 : decode cX8_folds 0 = .ok (.aload_n 0, 1) := by decide +kernel
theorem dX8_folds_1 : decode cX8_folds 1 = .ok (.getfield 41, 3) := by decide +kernel
theorem dX8_folds_4 : decode cX8_folds 4 = .ok (.iconst 2, 1) := by decide +kernel
theorem dX8_folds_5 : decode cX8_folds 5 = .ok (.if_icmp .ge 7, 3) := by decide +kernel
theorem dX8_folds_8 : decode cX8_folds 8 = .ok (.iconst 1, 1) := by decide +kernel
theorem dX8_folds_9 : decode cX8_folds 9 = .ok (.goto 11, 3) := by decide +kernel
theorem dX8_folds_12 : decode cX8_folds 12 = .ok (.iconst 1, 1) := by decide +kernel
theorem dX8_folds_13 : decode cX8_folds 13 = .ok (.aload_n 0, 1) := by decide +kernel
theorem dX8_folds_14 : decode cX8_folds 14 = .ok (.getfield 41, 3) := by decide +kernel
theorem dX8_folds_17 : decode cX8_folds 17 = .ok (.iconst 1, 1) := by decide +kernel
theorem dX8_folds_18 : decode cX8_folds 18 = .ok (.isub, 1) := by decide +kernel
theorem dX8_folds_19 : decode cX8_folds 19 = .ok (.ishl, 1) := by decide +kernel
theorem dX8_folds_20 : decode cX8_folds 20 = .ok (.ireturn, 1) := by decide +kernel
set_option maxRecDepth 20000 in
theorem ggX8_isFold_X8_folds : GoodIn wsX8_isFold wsX8_folds := goodIn_r _ [6, 7, 11, 12, 13, 14, 15, 16, 17, 18, 19, 20, 21, 22, 23, 24, 25, 26, 27, 28, 29, 30, 31, 32] (by decide +kernel) (by decide +kernel)
set_option maxRecDepth 20000 in
theorem gX8_isFold_X8_folds : GoodIn wsX8_isFold (wsV RX8 135 RX8 yX8_folds wsX8_folds) := goodIn_app (goodIn_of _ (by decide +kernel)) ggX8_isFold_X8_folds
set_option maxRecDepth 20000 in
theorem ggX8_isFold_X8_in : GoodIn wsX8_isFold wsX8_in := goodIn_r _ [10] (by decide +kernel) (by decide +kernel)
set_option maxRecDepth 20000 in
theorem gX8_isFold_X8_in : GoodIn wsX8_isFold (va_wsS RX8 45 yX8_in wsX8_in) := goodIn_app (goodIn_of _ (by decide +kernel)) ggX8_isFold_X8_in
theorem dX8_isFold_0 : decode cX8_isFold 0 = .ok (.iload_n 1, 1) := by decide +kernel
theorem dX8_isFold_1 : decode cX8_isFold 1 = .ok (.iconst 0, 1) := by decide +kernel
theorem dX8_isFold_2 : decode cX8_isFold 2 = .ok (.aload_n 0, 1) := by decide +kernel
theorem dX8_isFold_3 : decode cX8_isFold 3 = .ok (.invokevirtual 135, 3) := by decide +kernel
theorem dX8_isFold_6 : decode cX8_isFold 6 = .ok (.iconst 1, 1) := by decide +kernel
theorem dX8_isFold_7 : decode cX8_isFold 7 = .ok (.isub, 1) := by decide +kernel
theorem dX8_isFold_8 : decode cX8_isFold 8 = .ok (.invokestatic 45, 3) := by decide +kernel
theorem dX8_isFold_11 : decode cX8_isFold 11 = .ok (.ifCond .eq 34, 3) := by decide +kernel
theorem dX8_isFold_14 : decode cX8_isFold 14 = .ok (.iload_n 1, 1) := by decide +kernel
theorem dX8_isFold_15 : decode cX8_isFold 15 = .ok (.aload_n 0, 1) := by decide +kernel
theorem dX8_isFold_16 : decode cX8_isFold 16 = .ok (.getfield 7, 3) := by decide +kernel
theorem dX8_isFold_19 : decode cX8_isFold 19 = .ok (.bipush 10, 2) := by decide +kernel
theorem dX8_isFold_21 : decode cX8_isFold 21 = .ok (.iaload, 1) := by decide +kernel
theorem dX8_isFold_22 : decode cX8_isFold 22 = .ok (.iand, 1) := by decide +kernel
theorem dX8_isFold_23 : decode cX8_isFold 23 = .ok (.aload_n 0, 1) := by decide +kernel
theorem dX8_isFold_24 : decode cX8_isFold 24 = .ok (.getfield 7, 3) := by decide +kernel
theorem dX8_isFold_27 : decode cX8_isFold 27 = .ok (.bipush 9, 2) := by decide +kernel
theorem dX8_isFold_29 : decode cX8_isFold 29 = .ok (.iaload, 1) := by decide +kernel
theorem dX8_isFold_30 : decode cX8_isFold 30 = .ok (.aload_n 0, 1) := by decide +kernel
theorem dX8_isFold_31 : decode cX8_isFold 31 = .ok (.getfield 7, 3) := by decide +kernel
theorem dX8_isFold_34 : decode cX8_isFold 34 = .ok (.bipush 10, 2) := by decide +kernel
theorem dX8_isFold_36 : decode cX8_isFold 36 = .ok (.iaload, 1) := by decide +kernel
theorem dX8_isFold_37 : decode cX8_isFold 37 = .ok (.iand, 1) := by decide +kernel
theorem dX8_isFold_38 : decode cX8_isFold 38 = .ok (.if_icmp .ne 7, 3) := by decide +kernel
theorem dX8_isFold_41 : decode cX8_isFold 41 = .ok (.iconst 1, 1) := by decide +kernel
theorem dX8_isFold_42 : decode cX8_isFold 42 = .ok (.goto 4, 3) := by decide +kernel
theorem dX8_isFold_45 : decode cX8_isFold 45 = .ok (.iconst 0, 1) := by decide +kernel
theorem dX8_isFold_46 : decode cX8_isFold 46 = .ok (.ireturn, 1) := by decide +kernel
set_option maxRecDepth 20000 in
theorem ggX8_leastFold_X8_folds : GoodIn wsX8_leastFold wsX8_folds := goodIn_r _ [6, 7, 36, 37, 38, 39, 40, 41, 42, 43, 44, 45, 46, 47, 48, 49, 50, 51, 52, 53, 54, 55, 56, 57] (by decide +kernel) (by decide +kernel)
set_option maxRecDepth 20000 in
theorem gX8_leastFold_X8_folds : GoodIn wsX8_leastFold (wsV RX8 135 RX8 yX8_folds wsX8_folds) := goodIn_app (goodIn_of _ (by decide +kernel)) ggX8_leastFold_X8_folds
set_option maxRecDepth 20000 in
theorem ggX8_leastFold_X8_isFold : GoodIn wsX8_leastFold wsX8_isFold := goodIn_r _ [11, 12, 2, 3, 4, 5, 6, 7, 13, 14, 15, 36, 37, 38, 39, 40, 41, 42, 43, 44, 45, 46, 47, 48, 49, 50, 51, 52, 53, 54, 55, 56, 57] (by decide +kernel) (by decide +kernel)
set_option maxRecDepth 20000 in
theorem gX8_leastFold_X8_isFold : GoodIn wsX8_leastFold (wsV RX8 139 RX8 yX8_isFold wsX8_isFold) := goodIn_app (goodIn_of _ (by decide +kernel)) ggX8_leastFold_X8_isFold
set_option maxRecDepth 20000 in
theorem ggX8_leastFold_X8_spanBy : GoodIn wsX8_leastFold wsX8_spanBy := goodIn_r _ [19, 20, 21, 22, 5, 23, 24, 7, 12, 25, 26, 27, 28, 29, 30, 31, 32, 33, 34, 35, 36, 37, 38, 39, 40, 41, 42, 43, 44, 45, 46, 47, 48, 49, 50, 51, 52, 53, 54, 55, 56, 57] (by decide +kernel) (by decide +kernel)
set_option maxRecDepth 20000 in
theorem gX8_leastFold_X8_spanBy : GoodIn wsX8_leastFold (wsV RX8 118 RX8 yX8_spanBy wsX8_spanBy) := goodIn_app (goodIn_of _ (by decide +kernel)) ggX8_leastFold_X8_spanBy
theorem dX8_leastFold_0 : decode cX8_leastFold 0 = .ok (.bipush (-9), 2) := by decide +kernel
theorem dX8_leastFold_2 : decode cX8_leastFold 2 = .ok (.istore_n 1, 1) := by decide +kernel
theorem dX8_leastFold_3 : decode cX8_leastFold 3 = .ok (.ldc 138, 2) := by decide +kernel
theorem dX8_leastFold_5 : decode cX8_leastFold 5 = .ok (.istore_n 2, 1) := by decide +kernel
theorem dX8_leastFold_6 : decode cX8_leastFold 6 = .ok (.iconst 0, 1) := by decide +kernel
theorem dX8_leastFold_7 : decode cX8_leastFold 7 = .ok (.istore_n 3, 1) := by decide +kernel
theorem dX8_leastFold_8 : decode cX8_leastFold 8 = .ok (.iload_n 3, 1) := by decide +kernel
theorem dX8_leastFold_9 : decode cX8_leastFold 9 = .ok (.aload_n 0, 1) := by decide +kernel
theorem dX8_leastFold_10 : decode cX8_leastFold 10 = .ok (.invokevirtual 135, 3) := by decide +kernel
theorem dX8_leastFold_13 : decode cX8_leastFold 13 = .ok (.if_icmp .ge 54, 3) := by decide +kernel
theorem dX8_leastFold_16 : decode cX8_leastFold 16 = .ok (.aload_n 0, 1) := by decide +kernel
theorem dX8_leastFold_17 : decode cX8_leastFold 17 = .ok (.iload_n 3, 1) := by decide +kernel
theorem dX8_leastFold_18 : decode cX8_leastFold 18 = .ok (.invokevirtual 139, 3) := by decide +kernel
theorem dX8_leastFold_21 : decode cX8_leastFold 21 = .ok (.ifCond .eq 11, 3) := by decide +kernel
theorem dX8_leastFold_24 : decode cX8_leastFold 24 = .ok (.aload_n 0, 1) := by decide +kernel
theorem dX8_leastFold_25 : decode cX8_leastFold 25 = .ok (.iload_n 3, 1) := by decide +kernel
theorem dX8_leastFold_26 : decode cX8_leastFold 26 = .ok (.invokevirtual 118, 3) := by decide +kernel
theorem dX8_leastFold_29 : decode cX8_leastFold 29 = .ok (.goto 5, 3) := by decide +kernel
theorem dX8_leastFold_32 : decode cX8_leastFold 32 = .ok (.ldc 138, 2) := by decide +kernel
theorem dX8_leastFold_34 : decode cX8_leastFold 34 = .ok (.istore 4, 2) := by decide +kernel
theorem dX8_leastFold_36 : decode cX8_leastFold 36 = .ok (.iload 4, 2) := by decide +kernel
theorem dX8_leastFold_38 : decode cX8_leastFold 38 = .ok (.iload_n 2, 1) := by decide +kernel
theorem dX8_leastFold_39 : decode cX8_leastFold 39 = .ok (.if_icmp .ge 7, 3) := by decide +kernel
theorem dX8_leastFold_42 : decode cX8_leastFold 42 = .ok (.iload_n 3, 1) := by decide +kernel
theorem dX8_leastFold_43 : decode cX8_leastFold 43 = .ok (.goto 4, 3) := by decide +kernel
theorem dX8_leastFold_46 : decode cX8_leastFold 46 = .ok (.iload_n 1, 1) := by decide +kernel
theorem dX8_leastFold_47 : decode cX8_leastFold 47 = .ok (.istore_n 1, 1) := by decide +kernel
theorem dX8_leastFold_48 : decode cX8_leastFold 48 = .ok (.iload 4, 2) := by decide +kernel
theorem dX8_leastFold_50 : decode cX8_leastFold 50 = .ok (.iload_n 2, 1) := by decide +kernel
theorem dX8_leastFold_51 : decode cX8_leastFold 51 = .ok (.if_icmp .ge 8, 3) := by decide +kernel
theorem dX8_leastFold_54 : decode cX8_leastFold 54 = .ok (.iload 4, 2) := by decide +kernel
theorem dX8_leastFold_56 : decode cX8_leastFold 56 = .ok (.goto 4, 3) := by decide +kernel
theorem dX8_leastFold_59 : decode cX8_leastFold 59 = .ok (.iload_n 2, 1) := by decide +kernel
theorem dX8_leastFold_60 : decode cX8_leastFold 60 = .ok (.istore_n 2, 1) := by decide +kernel
theorem dX8_leastFold_61 : decode cX8_leastFold 61 = .ok (.iinc 3 1, 3) := by decide +kernel
theorem dX8_leastFold_64 : decode cX8_leastFold 64 = .ok (.goto (-56), 3) := by decide +kernel
theorem dX8_leastFold_67 : decode cX8_leastFold 67 = .ok (.iload_n 1, 1) := by decide +kernel
theorem dX8_leastFold_68 : decode cX8_leastFold 68 = .ok (.ireturn, 1) := by decide +kernel
set_option maxRecDepth 20000 in
theorem ggX8_mostEnd_X8_folds : GoodIn wsX8_mostEnd wsX8_folds := goodIn_r _ [8, 3, 24, 25, 26, 27, 28, 29, 30, 31, 32, 33, 34, 35, 36, 37, 38, 39, 40, 41, 42, 43, 44, 45] (by decide +kernel) (by decide +kernel)
set_option maxRecDepth 20000 in
theorem gX8_mostEnd_X8_folds : GoodIn wsX8_mostEnd (wsV RX8 135 RX8 yX8_folds wsX8_folds) := goodIn_app (goodIn_of _ (by decide +kernel)) ggX8_mostEnd_X8_folds
set_option maxRecDepth 20000 in
theorem ggX8_mostEnd_X8_isFold : GoodIn wsX8_mostEnd wsX8_isFold := goodIn_r _ [12, 13, 4, 5, 6, 7, 8, 3, 14, 15, 16, 24, 25, 26, 27, 28, 29, 30, 31, 32, 33, 34, 35, 36, 37, 38, 39, 40, 41, 42, 43, 44, 45] (by decide +kernel) (by decide +kernel)
set_option maxRecDepth 20000 in
theorem gX8_mostEnd_X8_isFold : GoodIn wsX8_mostEnd (wsV RX8 139 RX8 yX8_isFold wsX8_isFold) := goodIn_app (goodIn_of _ (by decide +kernel)) ggX8_mostEnd_X8_isFold
set_option maxRecDepth 20000 in
theorem ggX8_mostEnd_X8_lies : GoodIn wsX8_mostEnd wsX8_lies := goodIn_r _ [20, 2, 3, 13, 21, 22, 7, 23, 24, 25, 26, 27, 28, 29, 30, 31, 32, 33, 34, 35, 36, 37, 38, 39, 40, 41, 42, 43, 44, 45] (by decide +kernel) (by decide +kernel)
set_option maxRecDepth 20000 in
theorem gX8_mostEnd_X8_lies : GoodIn wsX8_mostEnd (wsV RX8 111 RX8 yX8_lies wsX8_lies) := goodIn_app (goodIn_of _ (by decide +kernel)) ggX8_mostEnd_X8_lies
theorem dX8_mostEnd_0 : decode cX8_mostEnd 0 = .ok (.ldc 142, 2) := by decide +kernel
theorem dX8_mostEnd_2 : decode cX8_mostEnd 2 = .ok (.istore_n 1, 1) := by decide +kernel
theorem dX8_mostEnd_3 : decode cX8_mostEnd 3 = .ok (.iconst 0, 1) := by decide +kernel
theorem dX8_mostEnd_4 : decode cX8_mostEnd 4 = .ok (.istore_n 2, 1) := by decide +kernel
theorem dX8_mostEnd_5 : decode cX8_mostEnd 5 = .ok (.iload_n 2, 1) := by decide +kernel
theorem dX8_mostEnd_6 : decode cX8_mostEnd 6 = .ok (.aload_n 0, 1) := by decide +kernel
theorem dX8_mostEnd_7 : decode cX8_mostEnd 7 = .ok (.invokevirtual 135, 3) := by decide +kernel
theorem dX8_mostEnd_10 : decode cX8_mostEnd 10 = .ok (.if_icmp .ge 52, 3) := by decide +kernel
theorem dX8_mostEnd_13 : decode cX8_mostEnd 13 = .ok (.aload_n 0, 1) := by decide +kernel
theorem dX8_mostEnd_14 : decode cX8_mostEnd 14 = .ok (.iload_n 2, 1) := by decide +kernel
theorem dX8_mostEnd_15 : decode cX8_mostEnd 15 = .ok (.invokevirtual 139, 3) := by decide +kernel
theorem dX8_mostEnd_18 : decode cX8_mostEnd 18 = .ok (.ifCond .eq 38, 3) := by decide +kernel
theorem dX8_mostEnd_21 : decode cX8_mostEnd 21 = .ok (.aload_n 0, 1) := by decide +kernel
theorem dX8_mostEnd_22 : decode cX8_mostEnd 22 = .ok (.iload_n 2, 1) := by decide +kernel
theorem dX8_mostEnd_23 : decode cX8_mostEnd 23 = .ok (.bipush (-9), 2) := by decide +kernel
theorem dX8_mostEnd_25 : decode cX8_mostEnd 25 = .ok (.iconst 0, 1) := by decide +kernel
theorem dX8_mostEnd_26 : decode cX8_mostEnd 26 = .ok (.invokevirtual 111, 3) := by decide +kernel
theorem dX8_mostEnd_29 : decode cX8_mostEnd 29 = .ok (.aload_n 0, 1) := by decide +kernel
theorem dX8_mostEnd_30 : decode cX8_mostEnd 30 = .ok (.getfield 29, 3) := by decide +kernel
theorem dX8_mostEnd_33 : decode cX8_mostEnd 33 = .ok (.aload_n 0, 1) := by decide +kernel
theorem dX8_mostEnd_34 : decode cX8_mostEnd 34 = .ok (.getfield 41, 3) := by decide +kernel
theorem dX8_mostEnd_37 : decode cX8_mostEnd 37 = .ok (.iaload, 1) := by decide +kernel
theorem dX8_mostEnd_38 : decode cX8_mostEnd 38 = .ok (.iload_n 1, 1) := by decide +kernel
theorem dX8_mostEnd_39 : decode cX8_mostEnd 39 = .ok (.if_icmp .le 15, 3) := by decide +kernel
theorem dX8_mostEnd_42 : decode cX8_mostEnd 42 = .ok (.aload_n 0, 1) := by decide +kernel
theorem dX8_mostEnd_43 : decode cX8_mostEnd 43 = .ok (.getfield 29, 3) := by decide +kernel
theorem dX8_mostEnd_46 : decode cX8_mostEnd 46 = .ok (.aload_n 0, 1) := by decide +kernel
theorem dX8_mostEnd_47 : decode cX8_mostEnd 47 = .ok (.getfield 41, 3) := by decide +kernel
theorem dX8_mostEnd_50 : decode cX8_mostEnd 50 = .ok (.iaload, 1) := by decide +kernel
theorem dX8_mostEnd_51 : decode cX8_mostEnd 51 = .ok (.goto 4, 3) := by decide +kernel
theorem dX8_mostEnd_54 : decode cX8_mostEnd 54 = .ok (.iload_n 1, 1) := by decide +kernel
theorem dX8_mostEnd_55 : decode cX8_mostEnd 55 = .ok (.istore_n 1, 1) := by decide +kernel
theorem dX8_mostEnd_56 : decode cX8_mostEnd 56 = .ok (.iinc 2 1, 3) := by decide +kernel
theorem dX8_mostEnd_59 : decode cX8_mostEnd 59 = .ok (.goto (-54), 3) := by decide +kernel
theorem dX8_mostEnd_62 : decode cX8_mostEnd 62 = .ok (.iload_n 1, 1) := by decide +kernel
theorem dX8_mostEnd_63 : decode cX8_mostEnd 63 = .ok (.ireturn, 1) := by decide +kernel
set_option maxRecDepth 20000 in
theorem ggX8_measure_X8_folds : GoodIn wsX8_measure wsX8_folds := goodIn_r _ [8, 2, 24, 25, 26, 27, 28, 29, 30, 31, 32, 33, 34, 35, 36, 37, 38, 39, 40, 41, 42, 43, 44, 45] (by decide +kernel) (by decide +kernel)
set_option maxRecDepth 20000 in
theorem gX8_measure_X8_folds : GoodIn wsX8_measure (wsV RX8 135 RX8 yX8_folds wsX8_folds) := goodIn_app (goodIn_of _ (by decide +kernel)) ggX8_measure_X8_folds
set_option maxRecDepth 20000 in
theorem ggX8_measure_X8_isFold : GoodIn wsX8_measure wsX8_isFold := goodIn_r _ [12, 13, 4, 5, 6, 7, 8, 2, 14, 15, 16, 24, 25, 26, 27, 28, 29, 30, 31, 32, 33, 34, 35, 36, 37, 38, 39, 40, 41, 42, 43, 44, 45] (by decide +kernel) (by decide +kernel)
set_option maxRecDepth 20000 in
theorem gX8_measure_X8_isFold : GoodIn wsX8_measure (wsV RX8 139 RX8 yX8_isFold wsX8_isFold) := goodIn_app (goodIn_of _ (by decide +kernel)) ggX8_measure_X8_isFold
set_option maxRecDepth 20000 in
theorem ggX8_measure_X8_lies : GoodIn wsX8_measure wsX8_lies := goodIn_r _ [20, 3, 2, 13, 21, 22, 7, 23, 24, 25, 26, 27, 28, 29, 30, 31, 32, 33, 34, 35, 36, 37, 38, 39, 40, 41, 42, 43, 44, 45] (by decide +kernel) (by decide +kernel)
set_option maxRecDepth 20000 in
theorem gX8_measure_X8_lies : GoodIn wsX8_measure (wsV RX8 111 RX8 yX8_lies wsX8_lies) := goodIn_app (goodIn_of _ (by decide +kernel)) ggX8_measure_X8_lies
theorem dX8_measure_0 : decode cX8_measure 0 = .ok (.iconst 0, 1) := by decide +kernel
theorem dX8_measure_1 : decode cX8_measure 1 = .ok (.istore_n 1, 1) := by decide +kernel
theorem dX8_measure_2 : decode cX8_measure 2 = .ok (.iload_n 1, 1) := by decide +kernel
theorem dX8_measure_3 : decode cX8_measure 3 = .ok (.sipush 182, 3) := by decide +kernel
theorem dX8_measure_6 : decode cX8_measure 6 = .ok (.if_icmp .ge 16, 3) := by decide +kernel
theorem dX8_measure_9 : decode cX8_measure 9 = .ok (.aload_n 0, 1) := by decide +kernel
theorem dX8_measure_10 : decode cX8_measure 10 = .ok (.getfield 32, 3) := by decide +kernel
theorem dX8_measure_13 : decode cX8_measure 13 = .ok (.iload_n 1, 1) := by decide +kernel
theorem dX8_measure_14 : decode cX8_measure 14 = .ok (.iconst 0, 1) := by decide +kernel
theorem dX8_measure_15 : decode cX8_measure 15 = .ok (.bastore, 1) := by decide +kernel
theorem dX8_measure_16 : decode cX8_measure 16 = .ok (.iinc 1 1, 3) := by decide +kernel
theorem dX8_measure_19 : decode cX8_measure 19 = .ok (.goto (-17), 3) := by decide +kernel
theorem dX8_measure_22 : decode cX8_measure 22 = .ok (.iconst 0, 1) := by decide +kernel
theorem dX8_measure_23 : decode cX8_measure 23 = .ok (.istore_n 1, 1) := by decide +kernel
theorem dX8_measure_24 : decode cX8_measure 24 = .ok (.iload_n 1, 1) := by decide +kernel
theorem dX8_measure_25 : decode cX8_measure 25 = .ok (.aload_n 0, 1) := by decide +kernel
theorem dX8_measure_26 : decode cX8_measure 26 = .ok (.invokevirtual 135, 3) := by decide +kernel
theorem dX8_measure_29 : decode cX8_measure 29 = .ok (.if_icmp .ge 103, 3) := by decide +kernel
theorem dX8_measure_32 : decode cX8_measure 32 = .ok (.aload_n 0, 1) := by decide +kernel
theorem dX8_measure_33 : decode cX8_measure 33 = .ok (.iload_n 1, 1) := by decide +kernel
theorem dX8_measure_34 : decode cX8_measure 34 = .ok (.invokevirtual 139, 3) := by decide +kernel
theorem dX8_measure_37 : decode cX8_measure 37 = .ok (.ifCond .eq 89, 3) := by decide +kernel
theorem dX8_measure_40 : decode cX8_measure 40 = .ok (.aload_n 0, 1) := by decide +kernel
theorem dX8_measure_41 : decode cX8_measure 41 = .ok (.iload_n 1, 1) := by decide +kernel
theorem dX8_measure_42 : decode cX8_measure 42 = .ok (.bipush (-9), 2) := by decide +kernel
theorem dX8_measure_44 : decode cX8_measure 44 = .ok (.iconst 0, 1) := by decide +kernel
theorem dX8_measure_45 : decode cX8_measure 45 = .ok (.invokevirtual 111, 3) := by decide +kernel
theorem dX8_measure_48 : decode cX8_measure 48 = .ok (.iconst 0, 1) := by decide +kernel
theorem dX8_measure_49 : decode cX8_measure 49 = .ok (.istore_n 2, 1) := by decide +kernel
theorem dX8_measure_50 : decode cX8_measure 50 = .ok (.iload_n 2, 1) := by decide +kernel
theorem dX8_measure_51 : decode cX8_measure 51 = .ok (.bipush 100, 2) := by decide +kernel
theorem dX8_measure_53 : decode cX8_measure 53 = .ok (.if_icmp .ge 73, 3) := by decide +kernel
theorem dX8_measure_56 : decode cX8_measure 56 = .ok (.iload_n 2, 1) := by decide +kernel
theorem dX8_measure_57 : decode cX8_measure 57 = .ok (.bipush 10, 2) := by decide +kernel
theorem dX8_measure_59 : decode cX8_measure 59 = .ok (.idiv, 1) := by decide +kernel
theorem dX8_measure_60 : decode cX8_measure 60 = .ok (.istore_n 3, 1) := by decide +kernel
theorem dX8_measure_61 : decode cX8_measure 61 = .ok (.iload_n 2, 1) := by decide +kernel
theorem dX8_measure_62 : decode cX8_measure 62 = .ok (.bipush 10, 2) := by decide +kernel
theorem dX8_measure_64 : decode cX8_measure 64 = .ok (.irem, 1) := by decide +kernel
