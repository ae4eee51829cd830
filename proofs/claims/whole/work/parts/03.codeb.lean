theorem dX3_skipBlanks_11 : decode cX3_skipBlanks 11 = .ok (.aload_n 0, 1) := by decide +kernel
theorem dX3_skipBlanks_12 : decode cX3_skipBlanks 12 = .ok (.getfield 25, 3) := by decide +kernel
theorem dX3_skipBlanks_15 : decode cX3_skipBlanks 15 = .ok (.aload_n 0, 1) := by decide +kernel
theorem dX3_skipBlanks_16 : decode cX3_skipBlanks 16 = .ok (.getfield 18, 3) := by decide +kernel
theorem dX3_skipBlanks_19 : decode cX3_skipBlanks 19 = .ok (.baload, 1) := by decide +kernel
theorem dX3_skipBlanks_20 : decode cX3_skipBlanks 20 = .ok (.bipush 32, 2) := by decide +kernel
theorem dX3_skipBlanks_22 : decode cX3_skipBlanks 22 = .ok (.if_icmp .ne 16, 3) := by decide +kernel
theorem dX3_skipBlanks_25 : decode cX3_skipBlanks 25 = .ok (.aload_n 0, 1) := by decide +kernel
theorem dX3_skipBlanks_26 : decode cX3_skipBlanks 26 = .ok (.dup, 1) := by decide +kernel
theorem dX3_skipBlanks_27 : decode cX3_skipBlanks 27 = .ok (.getfield 18, 3) := by decide +kernel
theorem dX3_skipBlanks_30 : decode cX3_skipBlanks 30 = .ok (.iconst 1, 1) := by decide +kernel
theorem dX3_skipBlanks_31 : decode cX3_skipBlanks 31 = .ok (.iadd, 1) := by decide +kernel
theorem dX3_skipBlanks_32 : decode cX3_skipBlanks 32 = .ok (.putfield 18, 3) := by decide +kernel
theorem dX3_skipBlanks_35 : decode cX3_skipBlanks 35 = .ok (.goto (-35), 3) := by decide +kernel
theorem dX3_skipBlanks_38 : decode cX3_skipBlanks 38 = .ok (.return_, 1) := by decide +kernel
set_option maxRecDepth 20000 in
theorem ggX4_init_X0_init : GoodIn wsX4_init wsX0_init := goodIn_r _ [29, 30, 2, 3, 31, 32, 33, 34, 35, 36, 37, 38, 39, 62, 63, 64, 65] (by decide +kernel) (by decide +kernel)
set_option maxRecDepth 20000 in
theorem gX4_init_X0_init : GoodIn wsX4_init (wsX0_init) := ggX4_init_X0_init
set_option maxRecDepth 20000 in
theorem ggX4_init_X3_init : GoodIn wsX4_init wsX3_init := goodIn_r _ [41, 42, 2, 3, 43, 44, 45, 46, 47, 48, 33, 49, 77, 78, 79, 80, 81, 82] (by decide +kernel) (by decide +kernel)
set_option maxRecDepth 20000 in
theorem gX4_init_X3_init_n41 : GoodIn wsX4_init (wsX3_init) := ggX4_init_X3_init
set_option maxRecDepth 20000 in
theorem ggX4_init_X2_init : GoodIn wsX4_init wsX2_init := goodIn_r _ [51, 52, 2, 3, 53, 54, 55, 33, 56, 57, 83, 84, 85, 86] (by decide +kernel) (by decide +kernel)
set_option maxRecDepth 20000 in
theorem gX4_init_X2_init_n48 : GoodIn wsX4_init (wsX2_init) := ggX4_init_X2_init
set_option maxRecDepth 20000 in
theorem ggX4_init_X1_init : GoodIn wsX4_init wsX1_init := goodIn_r _ [59, 60, 2, 3, 33, 61, 87] (by decide +kernel) (by decide +kernel)
set_option maxRecDepth 20000 in
theorem gX4_init_X1_init_n55 : GoodIn wsX4_init (wsX1_init) := ggX4_init_X1_init
theorem dX4_init_0 : decode cX4_init 0 = .ok (.aload_n 0, 1) := by decide +kernel
theorem dX4_init_1 : decode cX4_init 1 = .ok (.invokespecial 3, 3) := by decide +kernel
theorem dX4_init_4 : decode cX4_init 4 = .ok (.aload_n 0, 1) := by decide +kernel
theorem dX4_init_5 : decode cX4_init 5 = .ok (.new 9, 3) := by decide +kernel
theorem dX4_init_8 : decode cX4_init 8 = .ok (.dup, 1) := by decide +kernel
theorem dX4_init_9 : decode cX4_init 9 = .ok (.invokespecial 11, 3) := by decide +kernel
theorem dX4_init_12 : decode cX4_init 12 = .ok (.putfield 12, 3) := by decide +kernel
theorem dX4_init_15 : decode cX4_init 15 = .ok (.aload_n 0, 1) := by decide +kernel
theorem dX4_init_16 : decode cX4_init 16 = .ok (.new 9, 3) := by decide +kernel
theorem dX4_init_19 : decode cX4_init 19 = .ok (.dup, 1) := by decide +kernel
theorem dX4_init_20 : decode cX4_init 20 = .ok (.invokespecial 11, 3) := by decide +kernel
theorem dX4_init_23 : decode cX4_init 23 = .ok (.putfield 16, 3) := by decide +kernel
theorem dX4_init_26 : decode cX4_init 26 = .ok (.aload_n 0, 1) := by decide +kernel
theorem dX4_init_27 : decode cX4_init 27 = .ok (.iconst 5, 1) := by decide +kernel
theorem dX4_init_28 : decode cX4_init 28 = .ok (.anewarray 9, 3) := by decide +kernel
theorem dX4_init_31 : decode cX4_init 31 = .ok (.putfield 19, 3) := by decide +kernel
theorem dX4_init_34 : decode cX4_init 34 = .ok (.aload_n 0, 1) := by decide +kernel
theorem dX4_init_35 : decode cX4_init 35 = .ok (.iconst 0, 1) := by decide +kernel
theorem dX4_init_36 : decode cX4_init 36 = .ok (.putfield 23, 3) := by decide +kernel
theorem dX4_init_39 : decode cX4_init 39 = .ok (.aload_n 0, 1) := by decide +kernel
theorem dX4_init_40 : decode cX4_init 40 = .ok (.iconst 0, 1) := by decide +kernel
theorem dX4_init_41 : decode cX4_init 41 = .ok (.putfield 27, 3) := by decide +kernel
theorem dX4_init_44 : decode cX4_init 44 = .ok (.aload_n 0, 1) := by decide +kernel
theorem dX4_init_45 : decode cX4_init 45 = .ok (.iconst 0, 1) := by decide +kernel
theorem dX4_init_46 : decode cX4_init 46 = .ok (.putfield 30, 3) := by decide +kernel
theorem dX4_init_49 : decode cX4_init 49 = .ok (.aload_n 0, 1) := by decide +kernel
theorem dX4_init_50 : decode cX4_init 50 = .ok (.iconst 0, 1) := by decide +kernel
theorem dX4_init_51 : decode cX4_init 51 = .ok (.putfield 33, 3) := by decide +kernel
theorem dX4_init_54 : decode cX4_init 54 = .ok (.aload_n 0, 1) := by decide +kernel
theorem dX4_init_55 : decode cX4_init 55 = .ok (.iconst 0, 1) := by decide +kernel
theorem dX4_init_56 : decode cX4_init 56 = .ok (.putfield 36, 3) := by decide +kernel
theorem dX4_init_59 : decode cX4_init 59 = .ok (.aload_n 0, 1) := by decide +kernel
theorem dX4_init_60 : decode cX4_init 60 = .ok (.new 39, 3) := by decide +kernel
theorem dX4_init_63 : decode cX4_init 63 = .ok (.dup, 1) := by decide +kernel
theorem dX4_init_64 : decode cX4_init 64 = .ok (.invokespecial 41, 3) := by decide +kernel
theorem dX4_init_67 : decode cX4_init 67 = .ok (.putfield 42, 3) := by decide +kernel
theorem dX4_init_70 : decode cX4_init 70 = .ok (.aload_n 0, 1) := by decide +kernel
theorem dX4_init_71 : decode cX4_init 71 = .ok (.new 46, 3) := by decide +kernel
theorem dX4_init_74 : decode cX4_init 74 = .ok (.dup, 1) := by decide +kernel
theorem dX4_init_75 : decode cX4_init 75 = .ok (.invokespecial 48, 3) := by decide +kernel
theorem dX4_init_78 : decode cX4_init 78 = .ok (.putfield 49, 3) := by decide +kernel
theorem dX4_init_81 : decode cX4_init 81 = .ok (.aload_n 0, 1) := by decide +kernel
theorem dX4_init_82 : decode cX4_init 82 = .ok (.new 53, 3) := by decide +kernel
theorem dX4_init_85 : decode cX4_init 85 = .ok (.dup, 1) := by decide +kernel
theorem dX4_init_86 : decode cX4_init 86 = .ok (.invokespecial 55, 3) := by decide +kernel
theorem dX4_init_89 : decode cX4_init 89 = .ok (.putfield 56, 3) := by decide +kernel
theorem dX4_init_92 : decode cX4_init 92 = .ok (.iconst 0, 1) := by decide +kernel
theorem dX4_init_93 : decode cX4_init 93 = .ok (.istore_n 1, 1) := by decide +kernel
theorem dX4_init_94 : decode cX4_init 94 = .ok (.iload_n 1, 1) := by decide +kernel
theorem dX4_init_95 : decode cX4_init 95 = .ok (.iconst 5, 1) := by decide +kernel
theorem dX4_init_96 : decode cX4_init 96 = .ok (.if_icmp .ge 22, 3) := by decide +kernel
theorem dX4_init_99 : decode cX4_init 99 = .ok (.aload_n 0, 1) := by decide +kernel
theorem dX4_init_100 : decode cX4_init 100 = .ok (.getfield 19, 3) := by decide +kernel
theorem dX4_init_103 : decode cX4_init 103 = .ok (.iload_n 1, 1) := by decide +kernel
theorem dX4_init_104 : decode cX4_init 104 = .ok (.new 9, 3) := by decide +kernel
theorem dX4_init_107 : decode cX4_init 107 = .ok (.dup, 1) := by decide +kernel
theorem dX4_init_108 : decode cX4_init 108 = .ok (.invokespecial 11, 3) := by decide +kernel
theorem dX4_init_111 : decode cX4_init 111 = .ok (.aastore, 1) := by decide +kernel
theorem dX4_init_112 : decode cX4_init 112 = .ok (.iinc 1 1, 3) := by decide +kernel
theorem dX4_init_115 : decode cX4_init 115 = .ok (.goto (-21), 3) := by decide +kernel
theorem dX4_init_118 : decode cX4_init 118 = .ok (.return_, 1) := by decide +kernel
set_option maxRecDepth 20000 in
theorem ggX4_span_X4_keepBefore : GoodIn wsX4_span wsX4_keepBefore := goodIn_r _ [6, 7, 1, 8, 9, 10, 11, 12, 13, 14, 15, 16, 17, 18, 19, 20, 57, 58, 59, 60, 61, 62, 63, 64, 65, 66, 67, 68, 69, 70, 71] (by decide +kernel) (by decide +kernel)
set_option maxRecDepth 20000 in
theorem gX4_span_X4_keepBefore : GoodIn wsX4_span (wsV RX4 60 RX4 yX4_keepBefore wsX4_keepBefore) := goodIn_app (goodIn_of _ (by decide +kernel)) ggX4_span_X4_keepBefore
set_option maxRecDepth 20000 in
theorem ggX4_span_X0_addSpan : GoodIn wsX4_span wsX0_addSpan := goodIn_r _ [24, 25, 13, 26, 27, 5, 28, 29, 30, 31, 11, 32, 15, 68, 69, 70, 71] (by decide +kernel) (by decide +kernel)
set_option maxRecDepth 20000 in
theorem gX4_span_X0_addSpan : GoodIn wsX4_span (wsV RX4 63 RX0 yX0_addSpan wsX0_addSpan) := goodIn_app (goodIn_of _ (by decide +kernel)) ggX4_span_X0_addSpan
set_option maxRecDepth 20000 in
theorem ggX4_span_X4_settled : GoodIn wsX4_span wsX4_settled := goodIn_r _ [36, 37, 38, 7, 39, 40, 41, 42, 43, 44, 45, 5, 46, 47, 48, 49, 50, 51, 52, 53, 54, 55, 56, 8, 9, 10, 11, 12, 13, 14, 15, 16, 17, 18, 19, 20, 57, 58, 59, 60, 61, 62, 63, 64, 65, 66, 67, 68, 69, 70, 71] (by decide +kernel) (by decide +kernel)
set_option maxRecDepth 20000 in
theorem gX4_span_X4_settled : GoodIn wsX4_span (wsV RX4 67 RX4 yX4_settled wsX4_settled) := goodIn_app (goodIn_of _ (by decide +kernel)) ggX4_span_X4_settled
theorem dX4_span_0 : decode cX4_span 0 = .ok (.aload_n 0, 1) := by decide +kernel
theorem dX4_span_1 : decode cX4_span 1 = .ok (.invokevirtual 60, 3) := by decide +kernel
theorem dX4_span_4 : decode cX4_span 4 = .ok (.aload_n 0, 1) := by decide +kernel
theorem dX4_span_5 : decode cX4_span 5 = .ok (.aload_n 0, 1) := by decide +kernel
theorem dX4_span_6 : decode cX4_span 6 = .ok (.getfield 12, 3) := by decide +kernel
theorem dX4_span_9 : decode cX4_span 9 = .ok (.iload_n 1, 1) := by decide +kernel
theorem dX4_span_10 : decode cX4_span 10 = .ok (.iload_n 2, 1) := by decide +kernel
theorem dX4_span_11 : decode cX4_span 11 = .ok (.iload_n 3, 1) := by decide +kernel
theorem dX4_span_12 : decode cX4_span 12 = .ok (.iload 4, 2) := by decide +kernel
theorem dX4_span_14 : decode cX4_span 14 = .ok (.invokevirtual 63, 3) := by decide +kernel
theorem dX4_span_17 : decode cX4_span 17 = .ok (.invokevirtual 67, 3) := by decide +kernel
theorem dX4_span_20 : decode cX4_span 20 = .ok (.ireturn, 1) := by decide +kernel
set_option maxRecDepth 20000 in
theorem ggX4_cuts_X4_keepBefore : GoodIn wsX4_cuts wsX4_keepBefore := goodIn_r _ [6, 7, 1, 8, 9, 10, 11, 12, 13, 14, 15, 16, 17, 18, 19, 20, 50, 51, 52, 53, 54, 55, 56, 57, 58, 59, 60, 61, 62, 63, 64] (by decide +kernel) (by decide +kernel)
set_option maxRecDepth 20000 in
theorem gX4_cuts_X4_keepBefore : GoodIn wsX4_cuts (wsV RX4 60 RX4 yX4_keepBefore wsX4_keepBefore) := goodIn_app (goodIn_of _ (by decide +kernel)) ggX4_cuts_X4_keepBefore
set_option maxRecDepth 20000 in
theorem ggX4_cuts_X0_cutLast : GoodIn wsX4_cuts wsX0_cutLast := goodIn_r _ [24, 13, 25, 14, 61, 62, 63, 64] (by decide +kernel) (by decide +kernel)
set_option maxRecDepth 20000 in
theorem gX4_cuts_X0_cutLast : GoodIn wsX4_cuts (wsV RX4 71 RX0 yX0_cutLast wsX0_cutLast) := goodIn_app (goodIn_of _ (by decide +kernel)) ggX4_cuts_X0_cutLast
set_option maxRecDepth 20000 in
theorem ggX4_cuts_X4_settled : GoodIn wsX4_cuts wsX4_settled := goodIn_r _ [29, 30, 31, 7, 32, 33, 34, 35, 36, 37, 38, 5, 39, 40, 41, 42, 43, 44, 45, 46, 47, 48, 49, 8, 9, 10, 11, 12, 13, 14, 15, 16, 17, 18, 19, 20, 50, 51, 52, 53, 54, 55, 56, 57, 58, 59, 60, 61, 62, 63, 64] (by decide +kernel) (by decide +kernel)
set_option maxRecDepth 20000 in
theorem gX4_cuts_X4_settled : GoodIn wsX4_cuts (wsV RX4 67 RX4 yX4_settled wsX4_settled) := goodIn_app (goodIn_of _ (by decide +kernel)) ggX4_cuts_X4_settled
theorem dX4_cuts_0 : decode cX4_cuts 0 = .ok (.aload_n 0, 1) := by decide +kernel
theorem dX4_cuts_1 : decode cX4_cuts 1 = .ok (.invokevirtual 60, 3) := by decide +kernel
theorem dX4_cuts_4 : decode cX4_cuts 4 = .ok (.aload_n 0, 1) := by decide +kernel
theorem dX4_cuts_5 : decode cX4_cuts 5 = .ok (.aload_n 0, 1) := by decide +kernel
theorem dX4_cuts_6 : decode cX4_cuts 6 = .ok (.getfield 12, 3) := by decide +kernel
theorem dX4_cuts_9 : decode cX4_cuts 9 = .ok (.invokevirtual 71, 3) := by decide +kernel
theorem dX4_cuts_12 : decode cX4_cuts 12 = .ok (.invokevirtual 67, 3) := by decide +kernel
theorem dX4_cuts_15 : decode cX4_cuts 15 = .ok (.ireturn, 1) := by decide +kernel
set_option maxRecDepth 20000 in
theorem ggX4_sets_X4_keepBefore : GoodIn wsX4_sets wsX4_keepBefore := goodIn_r _ [6, 7, 1, 8, 9, 10, 11, 12, 13, 14, 15, 16, 17, 18, 19, 20, 52, 53, 54, 55, 56, 57, 58, 59, 60, 61, 62, 63, 64, 65, 66] (by decide +kernel) (by decide +kernel)
set_option maxRecDepth 20000 in
theorem gX4_sets_X4_keepBefore : GoodIn wsX4_sets (wsV RX4 60 RX4 yX4_keepBefore wsX4_keepBefore) := goodIn_app (goodIn_of _ (by decide +kernel)) ggX4_sets_X4_keepBefore
set_option maxRecDepth 20000 in
theorem ggX4_sets_X0_changeSetting : GoodIn wsX4_sets wsX0_changeSetting := goodIn_r _ [24, 25, 20, 26, 5, 27, 63, 64, 65, 66] (by decide +kernel) (by decide +kernel)
set_option maxRecDepth 20000 in
theorem gX4_sets_X0_changeSetting : GoodIn wsX4_sets (wsV RX4 75 RX0 yX0_changeSetting wsX0_changeSetting) := goodIn_app (goodIn_of _ (by decide +kernel)) ggX4_sets_X0_changeSetting
set_option maxRecDepth 20000 in
theorem ggX4_sets_X4_settled : GoodIn wsX4_sets wsX4_settled := goodIn_r _ [31, 32, 33, 7, 34, 35, 36, 37, 38, 39, 40, 5, 41, 42, 43, 44, 45, 46, 47, 48, 49, 50, 51, 8, 9, 10, 11, 12, 13, 14, 15, 16, 17, 18, 19, 20, 52, 53, 54, 55, 56, 57, 58, 59, 60, 61, 62, 63, 64, 65, 66] (by decide +kernel) (by decide +kernel)
set_option maxRecDepth 20000 in
theorem gX4_sets_X4_settled : GoodIn wsX4_sets (wsV RX4 67 RX4 yX4_settled wsX4_settled) := goodIn_app (goodIn_of _ (by decide +kernel)) ggX4_sets_X4_settled
theorem dX4_sets_0 : decode cX4_sets 0 = .ok (.aload_n 0, 1) := by decide +kernel
theorem dX4_sets_1 : decode cX4_sets 1 = .ok (.invokevirtual 60, 3) := by decide +kernel
theorem dX4_sets_4 : decode cX4_sets 4 = .ok (.aload_n 0, 1) := by decide +kernel
theorem dX4_sets_5 : decode cX4_sets 5 = .ok (.aload_n 0, 1) := by decide +kernel
theorem dX4_sets_6 : decode cX4_sets 6 = .ok (.getfield 12, 3) := by decide +kernel
theorem dX4_sets_9 : decode cX4_sets 9 = .ok (.iload_n 1, 1) := by decide +kernel
theorem dX4_sets_10 : decode cX4_sets 10 = .ok (.iload_n 2, 1) := by decide +kernel
theorem dX4_sets_11 : decode cX4_sets 11 = .ok (.invokevirtual 75, 3) := by decide +kernel
theorem dX4_sets_14 : decode cX4_sets 14 = .ok (.invokevirtual 67, 3) := by decide +kernel
theorem dX4_sets_17 : decode cX4_sets 17 = .ok (.ireturn, 1) := by decide +kernel
set_option maxRecDepth 20000 in
theorem ggX4_pumps_X4_keepBefore : GoodIn wsX4_pumps wsX4_keepBefore := goodIn_r _ [6, 7, 1, 8, 9, 10, 11, 12, 13, 14, 15, 16, 17, 18, 19, 20, 63, 64, 65, 66, 67, 68, 69, 70, 71, 72, 73, 74, 75, 76, 77] (by decide +kernel) (by decide +kernel)
set_option maxRecDepth 20000 in
theorem gX4_pumps_X4_keepBefore : GoodIn wsX4_pumps (wsV RX4 60 RX4 yX4_keepBefore wsX4_keepBefore) := goodIn_app (goodIn_of _ (by decide +kernel)) ggX4_pumps_X4_keepBefore
set_option maxRecDepth 20000 in
theorem ggX4_pumps_X0_turnPump : GoodIn wsX4_pumps wsX0_turnPump := goodIn_r _ [24, 25, 14, 26, 27, 28, 11, 29, 13, 30, 5, 31, 32, 33, 34, 35, 36, 37, 38, 74, 75, 76, 77] (by decide +kernel) (by decide +kernel)
set_option maxRecDepth 20000 in
theorem gX4_pumps_X0_turnPump : GoodIn wsX4_pumps (wsV RX4 79 RX0 yX0_turnPump wsX0_turnPump) := goodIn_app (goodIn_of _ (by decide +kernel)) ggX4_pumps_X0_turnPump
set_option maxRecDepth 20000 in
theorem ggX4_pumps_X4_settled : GoodIn wsX4_pumps wsX4_settled := goodIn_r _ [42, 43, 44, 7, 45, 46, 47, 48, 49, 50, 51, 5, 52, 53, 54, 55, 56, 57, 58, 59, 60, 61, 62, 8, 9, 10, 11, 12, 13, 14, 15, 16, 17, 18, 19, 20, 63, 64, 65, 66, 67, 68, 69, 70, 71, 72, 73, 74, 75, 76, 77] (by decide +kernel) (by decide +kernel)
set_option maxRecDepth 20000 in
theorem gX4_pumps_X4_settled : GoodIn wsX4_pumps (wsV RX4 67 RX4 yX4_settled wsX4_settled) := goodIn_app (goodIn_of _ (by decide +kernel)) ggX4_pumps_X4_settled
theorem dX4_pumps_0 : decode cX4_pumps 0 = .ok (.aload_n 0, 1) := by decide +kernel
theorem dX4_pumps_1 : decode cX4_pumps 1 = .ok (.invokevirtual 60, 3) := by decide +kernel
theorem dX4_pumps_4 : decode cX4_pumps 4 = .ok (.aload_n 0, 1) := by decide +kernel
theorem dX4_pumps_5 : decode cX4_pumps 5 = .ok (.aload_n 0, 1) := by decide +kernel
theorem dX4_pumps_6 : decode cX4_pumps 6 = .ok (.getfield 12, 3) := by decide +kernel
theorem dX4_pumps_9 : decode cX4_pumps 9 = .ok (.iload_n 1, 1) := by decide +kernel
theorem dX4_pumps_10 : decode cX4_pumps 10 = .ok (.invokevirtual 79, 3) := by decide +kernel
theorem dX4_pumps_13 : decode cX4_pumps 13 = .ok (.invokevirtual 67, 3) := by decide +kernel
theorem dX4_pumps_16 : decode cX4_pumps 16 = .ok (.ireturn, 1) := by decide +kernel
set_option maxRecDepth 20000 in
theorem ggX4_bursts_X4_keepBefore : GoodIn wsX4_bursts wsX4_keepBefore := goodIn_r _ [6, 7, 1, 8, 9, 10, 11, 12, 13, 14, 15, 16, 17, 18, 19, 20, 64, 65, 66, 67, 68, 69, 70, 71, 72, 73, 74, 75, 76, 77, 78] (by decide +kernel) (by decide +kernel)
set_option maxRecDepth 20000 in
theorem gX4_bursts_X4_keepBefore : GoodIn wsX4_bursts (wsV RX4 60 RX4 yX4_keepBefore wsX4_keepBefore) := goodIn_app (goodIn_of _ (by decide +kernel)) ggX4_bursts_X4_keepBefore
set_option maxRecDepth 20000 in
theorem ggX4_bursts_X0_burstSpan : GoodIn wsX4_bursts wsX0_burstSpan := goodIn_r _ [24, 25, 26, 27, 28, 11, 29, 13, 30, 5, 31, 32, 33, 34, 35, 15, 36, 37, 38, 39, 75, 76, 77, 78] (by decide +kernel) (by decide +kernel)
set_option maxRecDepth 20000 in
theorem gX4_bursts_X0_burstSpan : GoodIn wsX4_bursts (wsV RX4 82 RX0 yX0_burstSpan wsX0_burstSpan) := goodIn_app (goodIn_of _ (by decide +kernel)) ggX4_bursts_X0_burstSpan
set_option maxRecDepth 20000 in
theorem ggX4_bursts_X4_settled : GoodIn wsX4_bursts wsX4_settled := goodIn_r _ [43, 44, 45, 7, 46, 47, 48, 49, 50, 51, 52, 5, 53, 54, 55, 56, 57, 58, 59, 60, 61, 62, 63, 8, 9, 10, 11, 12, 13, 14, 15, 16, 17, 18, 19, 20, 64, 65, 66, 67, 68, 69, 70, 71, 72, 73, 74, 75, 76, 77, 78] (by decide +kernel) (by decide +kernel)
set_option maxRecDepth 20000 in
theorem gX4_bursts_X4_settled : GoodIn wsX4_bursts (wsV RX4 67 RX4 yX4_settled wsX4_settled) := goodIn_app (goodIn_of _ (by decide +kernel)) ggX4_bursts_X4_settled
theorem dX4_bursts_0 : decode cX4_bursts 0 = .ok (.aload_n 0, 1) := by decide +kernel
theorem dX4_bursts_1 : decode cX4_bursts 1 = .ok (.invokevirtual 60, 3) := by decide +kernel
theorem dX4_bursts_4 : decode cX4_bursts 4 = .ok (.aload_n 0, 1) := by decide +kernel
theorem dX4_bursts_5 : decode cX4_bursts 5 = .ok (.aload_n 0, 1) := by decide +kernel
theorem dX4_bursts_6 : decode cX4_bursts 6 = .ok (.getfield 12, 3) := by decide +kernel
theorem dX4_bursts_9 : decode cX4_bursts 9 = .ok (.iload_n 1, 1) := by decide +kernel
theorem dX4_bursts_10 : decode cX4_bursts 10 = .ok (.invokevirtual 82, 3) := by decide +kernel
theorem dX4_bursts_13 : decode cX4_bursts 13 = .ok (.invokevirtual 67, 3) := by decide +kernel
theorem dX4_bursts_16 : decode cX4_bursts 16 = .ok (.ireturn, 1) := by decide +kernel
set_option maxRecDepth 20000 in
theorem ggX4_mends_X4_keepBefore : GoodIn wsX4_mends wsX4_keepBefore := goodIn_r _ [6, 7, 1, 8, 9, 10, 11, 12, 13, 14, 15, 16, 17, 18, 19, 20, 69, 70, 71, 72, 73, 74, 75, 76, 77, 78, 79, 80, 81, 82, 83] (by decide +kernel) (by decide +kernel)
set_option maxRecDepth 20000 in
theorem gX4_mends_X4_keepBefore : GoodIn wsX4_mends (wsV RX4 60 RX4 yX4_keepBefore wsX4_keepBefore) := goodIn_app (goodIn_of _ (by decide +kernel)) ggX4_mends_X4_keepBefore
set_option maxRecDepth 20000 in
theorem ggX4_mends_X0_mendSpan : GoodIn wsX4_mends wsX0_mendSpan := goodIn_r _ [24, 25, 20, 26, 27, 28, 29, 11, 30, 13, 31, 5, 32, 33, 34, 35, 36, 15, 37, 38, 39, 40, 41, 42, 43, 44, 80, 81, 82, 83] (by decide +kernel) (by decide +kernel)
set_option maxRecDepth 20000 in
theorem gX4_mends_X0_mendSpan : GoodIn wsX4_mends (wsV RX4 85 RX0 yX0_mendSpan wsX0_mendSpan) := goodIn_app (goodIn_of _ (by decide +kernel)) ggX4_mends_X0_mendSpan
set_option maxRecDepth 20000 in
theorem ggX4_mends_X4_settled : GoodIn wsX4_mends wsX4_settled := goodIn_r _ [48, 49, 50, 7, 51, 52, 53, 54, 55, 56, 57, 5, 58, 59, 60, 61, 62, 63, 64, 65, 66, 67, 68, 8, 9, 10, 11, 12, 13, 14, 15, 16, 17, 18, 19, 20, 69, 70, 71, 72, 73, 74, 75, 76, 77, 78, 79, 80, 81, 82, 83] (by decide +kernel) (by decide +kernel)
set_option maxRecDepth 20000 in
theorem gX4_mends_X4_settled : GoodIn wsX4_mends (wsV RX4 67 RX4 yX4_settled wsX4_settled) := goodIn_app (goodIn_of _ (by decide +kernel)) ggX4_mends_X4_settled
theorem dX4_mends_0 : decode cX4_mends 0 = .ok (.aload_n 0, 1) := by decide +kernel
theorem dX4_mends_1 : decode cX4_mends 1 = .ok (.invokevirtual 60, 3) := by decide +kernel
theorem dX4_mends_4 : decode cX4_mends 4 = .ok (.aload_n 0, 1) := by decide +kernel
theorem dX4_mends_5 : decode cX4_mends 5 = .ok (.aload_n 0, 1) := by decide +kernel
theorem dX4_mends_6 : decode cX4_mends 6 = .ok (.getfield 12, 3) := by decide +kernel
theorem dX4_mends_9 : decode cX4_mends 9 = .ok (.iload_n 1, 1) := by decide +kernel
theorem dX4_mends_10 : decode cX4_mends 10 = .ok (.invokevirtual 85, 3) := by decide +kernel
theorem dX4_mends_13 : decode cX4_mends 13 = .ok (.invokevirtual 67, 3) := by decide +kernel
theorem dX4_mends_16 : decode cX4_mends 16 = .ok (.ireturn, 1) := by decide +kernel
set_option maxRecDepth 20000 in
theorem ggX4_lays_X1_bestSet : GoodIn wsX4_lays wsX1_bestSet := goodIn_r _ [11, 12, 13, 14, 15, 16, 17, 18, 19, 20, 21, 22, 10, 23, 24, 25, 26, 27, 28, 29, 30, 31, 32, 33, 34, 35, 36, 37, 38, 39, 40, 41, 42, 101, 97, 98, 99, 100] (by decide +kernel) (by decide +kernel)
set_option maxRecDepth 20000 in
theorem gX4_lays_X1_bestSet : GoodIn wsX4_lays (wsV RX4 92 RX1 yX1_bestSet wsX1_bestSet) := goodIn_app (goodIn_of _ (by decide +kernel)) ggX4_lays_X1_bestSet
set_option maxRecDepth 20000 in
theorem ggX4_lays_X4_counted : GoodIn wsX4_lays wsX4_counted := goodIn_r _ [47, 48, 49, 50, 86, 87, 88, 89, 90, 91, 92, 93, 94, 95, 96] (by decide +kernel) (by decide +kernel)
set_option maxRecDepth 20000 in
theorem gX4_lays_X4_counted : GoodIn wsX4_lays (wsV RX4 98 RX4 yX4_counted wsX4_counted) := goodIn_app (goodIn_of _ (by decide +kernel)) ggX4_lays_X4_counted
set_option maxRecDepth 20000 in
theorem ggX4_lays_X4_keepBefore : GoodIn wsX4_lays wsX4_keepBefore := goodIn_r _ [54, 55, 2, 56, 57, 58, 31, 59, 60, 61, 37, 62, 63, 64, 65, 66, 86, 87, 88, 89, 90, 91, 92, 93, 94, 95, 96, 97, 98, 99, 100] (by decide +kernel) (by decide +kernel)
set_option maxRecDepth 20000 in
theorem gX4_lays_X4_keepBefore : GoodIn wsX4_lays (wsV RX4 60 RX4 yX4_keepBefore wsX4_keepBefore) := goodIn_app (goodIn_of _ (by decide +kernel)) ggX4_lays_X4_keepBefore
set_option maxRecDepth 20000 in
theorem ggX4_lays_X4_bitsOf : GoodIn wsX4_lays wsX4_bitsOf := goodIn_r _ [69] (by decide +kernel) (by decide +kernel)
set_option maxRecDepth 20000 in
theorem gX4_lays_X4_bitsOf : GoodIn wsX4_lays (va_wsS RX4 101 yX4_bitsOf wsX4_bitsOf) := goodIn_app (goodIn_of _ (by decide +kernel)) ggX4_lays_X4_bitsOf
set_option maxRecDepth 20000 in
theorem ggX4_lays_X4_sizeOf : GoodIn wsX4_lays wsX4_sizeOf := goodIn_r _ [72] (by decide +kernel) (by decide +kernel)
set_option maxRecDepth 20000 in
theorem gX4_lays_X4_sizeOf : GoodIn wsX4_lays (va_wsS RX4 107 yX4_sizeOf wsX4_sizeOf) := goodIn_app (goodIn_of _ (by decide +kernel)) ggX4_lays_X4_sizeOf
set_option maxRecDepth 20000 in
theorem ggX4_lays_X4_settled : GoodIn wsX4_lays wsX4_settled := goodIn_r _ [76, 77, 78, 55, 79, 80, 25, 26, 27, 81, 82, 46, 83, 84, 5, 85, 43, 44, 45, 47, 48, 49, 50, 56, 57, 58, 31, 59, 60, 61, 37, 62, 63, 64, 65, 66, 86, 87, 88, 89, 90, 91, 92, 93, 94, 95, 96, 97, 98, 99, 100] (by decide +kernel) (by decide +kernel)
set_option maxRecDepth 20000 in
theorem gX4_lays_X4_settled : GoodIn wsX4_lays (wsV RX4 67 RX4 yX4_settled wsX4_settled) := goodIn_app (goodIn_of _ (by decide +kernel)) ggX4_lays_X4_settled
theorem dX4_lays_0 : decode cX4_lays 0 = .ok (.aload_n 0, 1) := by decide +kernel
theorem dX4_lays_1 : decode cX4_lays 1 = .ok (.getfield 56, 3) := by decide +kernel
theorem dX4_lays_4 : decode cX4_lays 4 = .ok (.aload_n 0, 1) := by decide +kernel
theorem dX4_lays_5 : decode cX4_lays 5 = .ok (.getfield 12, 3) := by decide +kernel
theorem dX4_lays_8 : decode cX4_lays 8 = .ok (.aload_n 0, 1) := by decide +kernel
theorem dX4_lays_9 : decode cX4_lays 9 = .ok (.getfield 12, 3) := by decide +kernel
theorem dX4_lays_12 : decode cX4_lays 12 = .ok (.getfield 88, 3) := by decide +kernel
theorem dX4_lays_15 : decode cX4_lays 15 = .ok (.iconst 0, 1) := by decide +kernel
theorem dX4_lays_16 : decode cX4_lays 16 = .ok (.iaload, 1) := by decide +kernel
theorem dX4_lays_17 : decode cX4_lays 17 = .ok (.invokevirtual 92, 3) := by decide +kernel
theorem dX4_lays_20 : decode cX4_lays 20 = .ok (.istore_n 1, 1) := by decide +kernel
theorem dX4_lays_21 : decode cX4_lays 21 = .ok (.iload_n 1, 1) := by decide +kernel
theorem dX4_lays_22 : decode cX4_lays 22 = .ok (.ldc 96, 2) := by decide +kernel
theorem dX4_lays_24 : decode cX4_lays 24 = .ok (.if_icmp .ne 10, 3) := by decide +kernel
theorem dX4_lays_27 : decode cX4_lays 27 = .ok (.aload_n 0, 1) := by decide +kernel
theorem dX4_lays_28 : decode cX4_lays 28 = .ok (.ldc 97, 2) := by decide +kernel
theorem dX4_lays_30 : decode cX4_lays 30 = .ok (.invokevirtual 98, 3) := by decide +kernel
theorem dX4_lays_33 : decode cX4_lays 33 = .ok (.ireturn, 1) := by decide +kernel
theorem dX4_lays_34 : decode cX4_lays 34 = .ok (.aload_n 0, 1) := by decide +kernel
theorem dX4_lays_35 : decode cX4_lays 35 = .ok (.invokevirtual 60, 3) := by decide +kernel
theorem dX4_lays_38 : decode cX4_lays 38 = .ok (.aload_n 0, 1) := by decide +kernel
theorem dX4_lays_39 : decode cX4_lays 39 = .ok (.getfield 12, 3) := by decide +kernel
theorem dX4_lays_42 : decode cX4_lays 42 = .ok (.iload_n 1, 1) := by decide +kernel
theorem dX4_lays_43 : decode cX4_lays 43 = .ok (.invokestatic 101, 3) := by decide +kernel
theorem dX4_lays_46 : decode cX4_lays 46 = .ok (.putfield 104, 3) := by decide +kernel
theorem dX4_lays_49 : decode cX4_lays 49 = .ok (.aload_n 0, 1) := by decide +kernel
theorem dX4_lays_50 : decode cX4_lays 50 = .ok (.iload_n 1, 1) := by decide +kernel
theorem dX4_lays_51 : decode cX4_lays 51 = .ok (.invokestatic 107, 3) := by decide +kernel
theorem dX4_lays_54 : decode cX4_lays 54 = .ok (.invokevirtual 67, 3) := by decide +kernel
theorem dX4_lays_57 : decode cX4_lays 57 = .ok (.ireturn, 1) := by decide +kernel
set_option maxRecDepth 20000 in
theorem ggX4_of_X0_hasSpan : GoodIn wsX4_of wsX0_hasSpan := goodIn_r _ [7, 8, 9, 10, 11, 36, 37, 38, 39] (by decide +kernel) (by decide +kernel)
set_option maxRecDepth 20000 in
theorem gX4_of_X0_hasSpan : GoodIn wsX4_of (wsV RX4 110 RX0 yX0_hasSpan wsX0_hasSpan) := goodIn_app (goodIn_of _ (by decide +kernel)) ggX4_of_X0_hasSpan
set_option maxRecDepth 20000 in
theorem ggX4_of_X4_within : GoodIn wsX4_of wsX4_within := goodIn_r _ [11] (by decide +kernel) (by decide +kernel)
set_option maxRecDepth 20000 in
theorem gX4_of_X4_within : GoodIn wsX4_of (va_wsS RX4 114 yX4_within wsX4_within) := goodIn_app (goodIn_of _ (by decide +kernel)) ggX4_of_X4_within
set_option maxRecDepth 20000 in
theorem ggX4_of_X4_counted : GoodIn wsX4_of wsX4_counted := goodIn_r _ [16, 17, 18, 19, 25, 26, 27, 28, 29, 30, 31, 32, 33, 34, 35] (by decide +kernel) (by decide +kernel)
set_option maxRecDepth 20000 in
theorem gX4_of_X4_counted : GoodIn wsX4_of (wsV RX4 98 RX4 yX4_counted wsX4_counted) := goodIn_app (goodIn_of _ (by decide +kernel)) ggX4_of_X4_counted
set_option maxRecDepth 20000 in
theorem ggX4_of_X0_fact : GoodIn wsX4_of wsX0_fact := goodIn_r _ [23, 24, 36, 37, 38, 39] (by decide +kernel) (by decide +kernel)
set_option maxRecDepth 20000 in
theorem gX4_of_X0_fact : GoodIn wsX4_of (wsV RX4 119 RX0 yX0_fact wsX0_fact) := goodIn_app (goodIn_of _ (by decide +kernel)) ggX4_of_X0_fact
theorem dX4_of_0 : decode cX4_of 0 = .ok (.aload_n 0, 1) := by decide +kernel
theorem dX4_of_1 : decode cX4_of 1 = .ok (.getfield 12, 3) := by decide +kernel
theorem dX4_of_4 : decode cX4_of 4 = .ok (.iload_n 1, 1) := by decide +kernel
theorem dX4_of_5 : decode cX4_of 5 = .ok (.invokevirtual 110, 3) := by decide +kernel
theorem dX4_of_8 : decode cX4_of 8 = .ok (.ifCond .eq 12, 3) := by decide +kernel
theorem dX4_of_11 : decode cX4_of 11 = .ok (.iload_n 2, 1) := by decide +kernel
theorem dX4_of_12 : decode cX4_of 12 = .ok (.iconst 0, 1) := by decide +kernel
theorem dX4_of_13 : decode cX4_of 13 = .ok (.iconst 4, 1) := by decide +kernel
theorem dX4_of_14 : decode cX4_of 14 = .ok (.invokestatic 114, 3) := by decide +kernel
theorem dX4_of_17 : decode cX4_of 17 = .ok (.ifCond .ne 10, 3) := by decide +kernel
theorem dX4_of_20 : decode cX4_of 20 = .ok (.aload_n 0, 1) := by decide +kernel
theorem dX4_of_21 : decode cX4_of 21 = .ok (.ldc 118, 2) := by decide +kernel
theorem dX4_of_23 : decode cX4_of 23 = .ok (.invokevirtual 98, 3) := by decide +kernel
theorem dX4_of_26 : decode cX4_of 26 = .ok (.ireturn, 1) := by decide +kernel
theorem dX4_of_27 : decode cX4_of 27 = .ok (.aload_n 0, 1) := by decide +kernel
theorem dX4_of_28 : decode cX4_of 28 = .ok (.getfield 12, 3) := by decide +kernel
theorem dX4_of_31 : decode cX4_of 31 = .ok (.iload_n 1, 1) := by decide +kernel
theorem dX4_of_32 : decode cX4_of 32 = .ok (.iload_n 2, 1) := by decide +kernel
theorem dX4_of_33 : decode cX4_of 33 = .ok (.invokevirtual 119, 3) := by decide +kernel
theorem dX4_of_36 : decode cX4_of 36 = .ok (.ireturn, 1) := by decide +kernel
set_option maxRecDepth 20000 in
theorem ggX4_loss_X0_hasSpan : GoodIn wsX4_loss wsX0_hasSpan := goodIn_r _ [7, 8, 9, 10, 11, 40, 41, 42, 43] (by decide +kernel) (by decide +kernel)
set_option maxRecDepth 20000 in
theorem gX4_loss_X0_hasSpan : GoodIn wsX4_loss (wsV RX4 110 RX0 yX0_hasSpan wsX0_hasSpan) := goodIn_app (goodIn_of _ (by decide +kernel)) ggX4_loss_X0_hasSpan
set_option maxRecDepth 20000 in
theorem ggX4_loss_X4_within : GoodIn wsX4_loss wsX4_within := goodIn_r _ [11] (by decide +kernel) (by decide +kernel)
set_option maxRecDepth 20000 in
theorem gX4_loss_X4_within : GoodIn wsX4_loss (va_wsS RX4 114 yX4_within wsX4_within) := goodIn_app (goodIn_of _ (by decide +kernel)) ggX4_loss_X4_within
set_option maxRecDepth 20000 in
theorem ggX4_loss_X4_counted : GoodIn wsX4_loss wsX4_counted := goodIn_r _ [16, 17, 18, 19, 29, 30, 31, 32, 33, 34, 35, 36, 37, 38, 39] (by decide +kernel) (by decide +kernel)
set_option maxRecDepth 20000 in
theorem gX4_loss_X4_counted : GoodIn wsX4_loss (wsV RX4 98 RX4 yX4_counted wsX4_counted) := goodIn_app (goodIn_of _ (by decide +kernel)) ggX4_loss_X4_counted
set_option maxRecDepth 20000 in
theorem ggX4_loss_X0_lossBy : GoodIn wsX4_loss wsX0_lossBy := goodIn_r _ [23, 24, 25, 26, 6, 27, 28, 40, 41, 42, 43] (by decide +kernel) (by decide +kernel)
set_option maxRecDepth 20000 in
theorem gX4_loss_X0_lossBy : GoodIn wsX4_loss (wsV RX4 122 RX0 yX0_lossBy wsX0_lossBy) := goodIn_app (goodIn_of _ (by decide +kernel)) ggX4_loss_X0_lossBy
theorem dX4_loss_0 : decode cX4_loss 0 = .ok (.aload_n 0, 1) := by decide +kernel
theorem dX4_loss_1 : decode cX4_loss 1 = .ok (.getfield 12, 3) := by decide +kernel
theorem dX4_loss_4 : decode cX4_loss 4 = .ok (.iload_n 1, 1) := by decide +kernel
theorem dX4_loss_5 : decode cX4_loss 5 = .ok (.invokevirtual 110, 3) := by decide +kernel
theorem dX4_loss_8 : decode cX4_loss 8 = .ok (.ifCond .eq 13, 3) := by decide +kernel
theorem dX4_loss_11 : decode cX4_loss 11 = .ok (.iload_n 2, 1) := by decide +kernel
theorem dX4_loss_12 : decode cX4_loss 12 = .ok (.iconst 1, 1) := by decide +kernel
theorem dX4_loss_13 : decode cX4_loss 13 = .ok (.bipush 30, 2) := by decide +kernel
theorem dX4_loss_15 : decode cX4_loss 15 = .ok (.invokestatic 114, 3) := by decide +kernel
theorem dX4_loss_18 : decode cX4_loss 18 = .ok (.ifCond .ne 10, 3) := by decide +kernel
theorem dX4_loss_21 : decode cX4_loss 21 = .ok (.aload_n 0, 1) := by decide +kernel
theorem dX4_loss_22 : decode cX4_loss 22 = .ok (.ldc 118, 2) := by decide +kernel
theorem dX4_loss_24 : decode cX4_loss 24 = .ok (.invokevirtual 98, 3) := by decide +kernel
theorem dX4_loss_27 : decode cX4_loss 27 = .ok (.ireturn, 1) := by decide +kernel
theorem dX4_loss_28 : decode cX4_loss 28 = .ok (.aload_n 0, 1) := by decide +kernel
theorem dX4_loss_29 : decode cX4_loss 29 = .ok (.getfield 12, 3) := by decide +kernel
theorem dX4_loss_32 : decode cX4_loss 32 = .ok (.iload_n 1, 1) := by decide +kernel
theorem dX4_loss_33 : decode cX4_loss 33 = .ok (.iload_n 2, 1) := by decide +kernel
theorem dX4_loss_34 : decode cX4_loss 34 = .ok (.invokevirtual 122, 3) := by decide +kernel
theorem dX4_loss_37 : decode cX4_loss 37 = .ok (.ireturn, 1) := by decide +kernel
set_option maxRecDepth 20000 in
theorem ggX4_node_X0_hasNode : GoodIn wsX4_node wsX0_hasNode := goodIn_r _ [11, 12, 13, 14, 15, 78, 79, 80, 81] (by decide +kernel) (by decide +kernel)
set_option maxRecDepth 20000 in
theorem gX4_node_X0_hasNode : GoodIn wsX4_node (wsV RX4 125 RX0 yX0_hasNode wsX0_hasNode) := goodIn_app (goodIn_of _ (by decide +kernel)) ggX4_node_X0_hasNode
set_option maxRecDepth 20000 in
theorem ggX4_node_X4_within : GoodIn wsX4_node wsX4_within := goodIn_r _ [15] (by decide +kernel) (by decide +kernel)
set_option maxRecDepth 20000 in
theorem gX4_node_X4_within : GoodIn wsX4_node (va_wsS RX4 114 yX4_within wsX4_within) := goodIn_app (goodIn_of _ (by decide +kernel)) ggX4_node_X4_within
set_option maxRecDepth 20000 in
theorem ggX4_node_X4_counted : GoodIn wsX4_node wsX4_counted := goodIn_r _ [20, 21, 22, 23, 67, 68, 69, 70, 71, 72, 73, 74, 75, 76, 77] (by decide +kernel) (by decide +kernel)
set_option maxRecDepth 20000 in
theorem gX4_node_X4_counted : GoodIn wsX4_node (wsV RX4 98 RX4 yX4_counted wsX4_counted) := goodIn_app (goodIn_of _ (by decide +kernel)) ggX4_node_X4_counted
set_option maxRecDepth 20000 in
theorem ggX4_node_X2_follow : GoodIn wsX4_node wsX2_follow := goodIn_r _ [28, 29, 30, 31, 32, 33, 34, 35, 36, 37, 38, 39, 40, 41, 42, 27, 43, 44, 45, 46, 47, 48, 49, 50, 10, 51, 52, 53, 54, 55, 56, 57, 58, 59, 60, 61, 62, 63, 64, 65, 66, 82, 83, 84, 85, 78, 79, 80, 81] (by decide +kernel) (by decide +kernel)
set_option maxRecDepth 20000 in
theorem gX4_node_X2_follow : GoodIn wsX4_node (wsV RX4 128 RX2 yX2_follow wsX2_follow) := goodIn_app (goodIn_of _ (by decide +kernel)) ggX4_node_X2_follow
theorem dX4_node_0 : decode cX4_node 0 = .ok (.aload_n 0, 1) := by decide +kernel
theorem dX4_node_1 : decode cX4_node 1 = .ok (.getfield 12, 3) := by decide +kernel
theorem dX4_node_4 : decode cX4_node 4 = .ok (.iload_n 1, 1) := by decide +kernel
theorem dX4_node_5 : decode cX4_node 5 = .ok (.invokevirtual 125, 3) := by decide +kernel
theorem dX4_node_8 : decode cX4_node 8 = .ok (.ifCond .eq 12, 3) := by decide +kernel
theorem dX4_node_11 : decode cX4_node 11 = .ok (.iload_n 2, 1) := by decide +kernel
theorem dX4_node_12 : decode cX4_node 12 = .ok (.iconst 0, 1) := by decide +kernel
theorem dX4_node_13 : decode cX4_node 13 = .ok (.iconst 1, 1) := by decide +kernel
theorem dX4_node_14 : decode cX4_node 14 = .ok (.invokestatic 114, 3) := by decide +kernel
theorem dX4_node_17 : decode cX4_node 17 = .ok (.ifCond .ne 10, 3) := by decide +kernel
theorem dX4_node_20 : decode cX4_node 20 = .ok (.aload_n 0, 1) := by decide +kernel
theorem dX4_node_21 : decode cX4_node 21 = .ok (.ldc 118, 2) := by decide +kernel
theorem dX4_node_23 : decode cX4_node 23 = .ok (.invokevirtual 98, 3) := by decide +kernel
theorem dX4_node_26 : decode cX4_node 26 = .ok (.ireturn, 1) := by decide +kernel
theorem dX4_node_27 : decode cX4_node 27 = .ok (.aload_n 0, 1) := by decide +kernel
theorem dX4_node_28 : decode cX4_node 28 = .ok (.getfield 49, 3) := by decide +kernel
theorem dX4_node_31 : decode cX4_node 31 = .ok (.aload_n 0, 1) := by decide +kernel
theorem dX4_node_32 : decode cX4_node 32 = .ok (.getfield 12, 3) := by decide +kernel
theorem dX4_node_35 : decode cX4_node 35 = .ok (.aload_n 0, 1) := by decide +kernel
theorem dX4_node_36 : decode cX4_node 36 = .ok (.getfield 12, 3) := by decide +kernel
theorem dX4_node_39 : decode cX4_node 39 = .ok (.getfield 88, 3) := by decide +kernel
theorem dX4_node_42 : decode cX4_node 42 = .ok (.iconst 0, 1) := by decide +kernel
theorem dX4_node_43 : decode cX4_node 43 = .ok (.iaload, 1) := by decide +kernel
theorem dX4_node_44 : decode cX4_node 44 = .ok (.invokevirtual 128, 3) := by decide +kernel
theorem dX4_node_47 : decode cX4_node 47 = .ok (.iload_n 2, 1) := by decide +kernel
theorem dX4_node_48 : decode cX4_node 48 = .ok (.ifCond .ne 15, 3) := by decide +kernel
theorem dX4_node_51 : decode cX4_node 51 = .ok (.aload_n 0, 1) := by decide +kernel
theorem dX4_node_52 : decode cX4_node 52 = .ok (.getfield 49, 3) := by decide +kernel
theorem dX4_node_55 : decode cX4_node 55 = .ok (.getfield 132, 3) := by decide +kernel
theorem dX4_node_58 : decode cX4_node 58 = .ok (.iload_n 1, 1) := by decide +kernel
theorem dX4_node_59 : decode cX4_node 59 = .ok (.iaload, 1) := by decide +kernel
theorem dX4_node_60 : decode cX4_node 60 = .ok (.goto 12, 3) := by decide +kernel
theorem dX4_node_63 : decode cX4_node 63 = .ok (.aload_n 0, 1) := by decide +kernel
theorem dX4_node_64 : decode cX4_node 64 = .ok (.getfield 49, 3) := by decide +kernel
theorem dX4_node_67 : decode cX4_node 67 = .ok (.getfield 135, 3) := by decide +kernel
theorem dX4_node_70 : decode cX4_node 70 = .ok (.iload_n 1, 1) := by decide +kernel
theorem dX4_node_71 : decode cX4_node 71 = .ok (.iaload, 1) := by decide +kernel
theorem dX4_node_72 : decode cX4_node 72 = .ok (.ireturn, 1) := by decide +kernel
set_option maxRecDepth 20000 in
theorem ggX4_run_X4_within : GoodIn wsX4_run wsX4_within := goodIn_r _ [12] (by decide +kernel) (by decide +kernel)
set_option maxRecDepth 20000 in
theorem gX4_run_X4_within : GoodIn wsX4_run (va_wsS RX4 114 yX4_within wsX4_within) := goodIn_app (goodIn_of _ (by decide +kernel)) ggX4_run_X4_within
set_option maxRecDepth 20000 in
theorem ggX4_run_X4_counted : GoodIn wsX4_run wsX4_counted := goodIn_r _ [16, 17, 18, 19, 64, 65, 66, 67, 68, 69, 70, 71, 72, 73, 74] (by decide +kernel) (by decide +kernel)
set_option maxRecDepth 20000 in
theorem gX4_run_X4_counted : GoodIn wsX4_run (wsV RX4 98 RX4 yX4_counted wsX4_counted) := goodIn_app (goodIn_of _ (by decide +kernel)) ggX4_run_X4_counted
set_option maxRecDepth 20000 in
theorem ggX4_run_X2_follow : GoodIn wsX4_run wsX2_follow := goodIn_r _ [24, 25, 26, 27, 28, 29, 30, 31, 32, 33, 34, 35, 36, 37, 38, 23, 39, 40, 41, 42, 43, 44, 45, 46, 47, 48, 49, 50, 51, 52, 53, 54, 55, 56, 57, 58, 59, 60, 61, 62, 63, 79, 80, 81, 82, 75, 76, 77, 78] (by decide +kernel) (by decide +kernel)
set_option maxRecDepth 20000 in
theorem gX4_run_X2_follow : GoodIn wsX4_run (wsV RX4 128 RX2 yX2_follow wsX2_follow) := goodIn_app (goodIn_of _ (by decide +kernel)) ggX4_run_X2_follow
theorem dX4_run_0 : decode cX4_run 0 = .ok (.iload_n 1, 1) := by decide +kernel
theorem dX4_run_1 : decode cX4_run 1 = .ok (.iconst 0, 1) := by decide +kernel
theorem dX4_run_2 : decode cX4_run 2 = .ok (.iconst 2, 1) := by decide +kernel
theorem dX4_run_3 : decode cX4_run 3 = .ok (.invokestatic 114, 3) := by decide +kernel
theorem dX4_run_6 : decode cX4_run 6 = .ok (.ifCond .ne 10, 3) := by decide +kernel
theorem dX4_run_9 : decode cX4_run 9 = .ok (.aload_n 0, 1) := by decide +kernel
theorem dX4_run_10 : decode cX4_run 10 = .ok (.ldc 118, 2) := by decide +kernel
theorem dX4_run_12 : decode cX4_run 12 = .ok (.invokevirtual 98, 3) := by decide +kernel
theorem dX4_run_15 : decode cX4_run 15 = .ok (.ireturn, 1) := by decide +kernel
theorem dX4_run_16 : decode cX4_run 16 = .ok (.aload_n 0, 1) := by decide +kernel
theorem dX4_run_17 : decode cX4_run 17 = .ok (.getfield 49, 3) := by decide +kernel
theorem dX4_run_20 : decode cX4_run 20 = .ok (.aload_n 0, 1) := by decide +kernel
theorem dX4_run_21 : decode cX4_run 21 = .ok (.getfield 12, 3) := by decide +kernel
theorem dX4_run_24 : decode cX4_run 24 = .ok (.aload_n 0, 1) := by decide +kernel
theorem dX4_run_25 : decode cX4_run 25 = .ok (.getfield 12, 3) := by decide +kernel
theorem dX4_run_28 : decode cX4_run 28 = .ok (.getfield 88, 3) := by decide +kernel
theorem dX4_run_31 : decode cX4_run 31 = .ok (.iconst 0, 1) := by decide +kernel
theorem dX4_run_32 : decode cX4_run 32 = .ok (.iaload, 1) := by decide +kernel
theorem dX4_run_33 : decode cX4_run 33 = .ok (.invokevirtual 128, 3) := by decide +kernel
theorem dX4_run_36 : decode cX4_run 36 = .ok (.iload_n 1, 1) := by decide +kernel
theorem dX4_run_37 : decode cX4_run 37 = .ok (.lookupswitch 43 #[(0, 27), (1, 35)], 27) := by decide +kernel
theorem dX4_run_64 : decode cX4_run 64 = .ok (.aload_n 0, 1) := by decide +kernel
theorem dX4_run_65 : decode cX4_run 65 = .ok (.getfield 49, 3) := by decide +kernel
theorem dX4_run_68 : decode cX4_run 68 = .ok (.getfield 138, 3) := by decide +kernel
theorem dX4_run_71 : decode cX4_run 71 = .ok (.ireturn, 1) := by decide +kernel
theorem dX4_run_72 : decode cX4_run 72 = .ok (.aload_n 0, 1) := by decide +kernel
theorem dX4_run_73 : decode cX4_run 73 = .ok (.getfield 49, 3) := by decide +kernel
theorem dX4_run_76 : decode cX4_run 76 = .ok (.getfield 141, 3) := by decide +kernel
theorem dX4_run_79 : decode cX4_run 79 = .ok (.ireturn, 1) := by decide +kernel
theorem dX4_run_80 : decode cX4_run 80 = .ok (.aload_n 0, 1) := by decide +kernel
theorem dX4_run_81 : decode cX4_run 81 = .ok (.getfield 49, 3) := by decide +kernel
theorem dX4_run_84 : decode cX4_run 84 = .ok (.getfield 135, 3) := by decide +kernel
theorem dX4_run_87 : decode cX4_run 87 = .ok (.aload_n 0, 1) := by decide +kernel
theorem dX4_run_88 : decode cX4_run 88 = .ok (.getfield 12, 3) := by decide +kernel
theorem dX4_run_91 : decode cX4_run 91 = .ok (.getfield 144, 3) := by decide +kernel
theorem dX4_run_94 : decode cX4_run 94 = .ok (.iaload, 1) := by decide +kernel
theorem dX4_run_95 : decode cX4_run 95 = .ok (.ireturn, 1) := by decide +kernel
set_option maxRecDepth 20000 in
theorem ggX4_fewest_X4_within : GoodIn wsX4_fewest wsX4_within := goodIn_r _ [9] (by decide +kernel) (by decide +kernel)
set_option maxRecDepth 20000 in
theorem gX4_fewest_X4_within : GoodIn wsX4_fewest (va_wsS RX4 114 yX4_within wsX4_within) := goodIn_app (goodIn_of _ (by decide +kernel)) ggX4_fewest_X4_within
set_option maxRecDepth 20000 in
theorem ggX4_fewest_X4_counted : GoodIn wsX4_fewest wsX4_counted := goodIn_r _ [13, 14, 15, 16, 59, 60, 61, 62, 63, 64, 65, 66, 67, 68, 69] (by decide +kernel) (by decide +kernel)
set_option maxRecDepth 20000 in
theorem gX4_fewest_X4_counted : GoodIn wsX4_fewest (wsV RX4 98 RX4 yX4_counted wsX4_counted) := goodIn_app (goodIn_of _ (by decide +kernel)) ggX4_fewest_X4_counted
set_option maxRecDepth 20000 in
theorem ggX4_fewest_X1_bestSet : GoodIn wsX4_fewest wsX1_bestSet := goodIn_r _ [21, 22, 23, 24, 25, 26, 27, 28, 29, 30, 31, 32, 20, 33, 34, 35, 36, 37, 38, 39, 40, 41, 42, 43, 44, 45, 46, 47, 48, 49, 50, 51, 52, 70, 71, 72, 73, 74] (by decide +kernel) (by decide +kernel)
set_option maxRecDepth 20000 in
theorem gX4_fewest_X1_bestSet : GoodIn wsX4_fewest (wsV RX4 92 RX1 yX1_bestSet wsX1_bestSet) := goodIn_app (goodIn_of _ (by decide +kernel)) ggX4_fewest_X1_bestSet
set_option maxRecDepth 20000 in
theorem ggX4_fewest_X4_sizeOf : GoodIn wsX4_fewest wsX4_sizeOf := goodIn_r _ [55] (by decide +kernel) (by decide +kernel)
set_option maxRecDepth 20000 in
theorem gX4_fewest_X4_sizeOf : GoodIn wsX4_fewest (va_wsS RX4 107 yX4_sizeOf wsX4_sizeOf) := goodIn_app (goodIn_of _ (by decide +kernel)) ggX4_fewest_X4_sizeOf
set_option maxRecDepth 20000 in
theorem ggX4_fewest_X4_bitsOf : GoodIn wsX4_fewest wsX4_bitsOf := goodIn_r _ [58] (by decide +kernel) (by decide +kernel)
set_option maxRecDepth 20000 in
theorem gX4_fewest_X4_bitsOf : GoodIn wsX4_fewest (va_wsS RX4 101 yX4_bitsOf wsX4_bitsOf) := goodIn_app (goodIn_of _ (by decide +kernel)) ggX4_fewest_X4_bitsOf
theorem dX4_fewest_0 : decode cX4_fewest 0 = .ok (.iload_n 1, 1) := by decide +kernel
theorem dX4_fewest_1 : decode cX4_fewest 1 = .ok (.iconst 1, 1) := by decide +kernel
theorem dX4_fewest_2 : decode cX4_fewest 2 = .ok (.bipush 30, 2) := by decide +kernel
theorem dX4_fewest_4 : decode cX4_fewest 4 = .ok (.invokestatic 114, 3) := by decide +kernel
theorem dX4_fewest_7 : decode cX4_fewest 7 = .ok (.ifCond .eq 12, 3) := by decide +kernel
theorem dX4_fewest_10 : decode cX4_fewest 10 = .ok (.iload_n 2, 1) := by decide +kernel
theorem dX4_fewest_11 : decode cX4_fewest 11 = .ok (.iconst 0, 1) := by decide +kernel
theorem dX4_fewest_12 : decode cX4_fewest 12 = .ok (.iconst 1, 1) := by decide +kernel
theorem dX4_fewest_13 : decode cX4_fewest 13 = .ok (.invokestatic 114, 3) := by decide +kernel
theorem dX4_fewest_16 : decode cX4_fewest 16 = .ok (.ifCond .ne 10, 3) := by decide +kernel
theorem dX4_fewest_19 : decode cX4_fewest 19 = .ok (.aload_n 0, 1) := by decide +kernel
theorem dX4_fewest_20 : decode cX4_fewest 20 = .ok (.ldc 118, 2) := by decide +kernel
theorem dX4_fewest_22 : decode cX4_fewest 22 = .ok (.invokevirtual 98, 3) := by decide +kernel
theorem dX4_fewest_25 : decode cX4_fewest 25 = .ok (.ireturn, 1) := by decide +kernel
theorem dX4_fewest_26 : decode cX4_fewest 26 = .ok (.aload_n 0, 1) := by decide +kernel
theorem dX4_fewest_27 : decode cX4_fewest 27 = .ok (.getfield 56, 3) := by decide +kernel
theorem dX4_fewest_30 : decode cX4_fewest 30 = .ok (.aload_n 0, 1) := by decide +kernel
theorem dX4_fewest_31 : decode cX4_fewest 31 = .ok (.getfield 12, 3) := by decide +kernel
theorem dX4_fewest_34 : decode cX4_fewest 34 = .ok (.iload_n 1, 1) := by decide +kernel
theorem dX4_fewest_35 : decode cX4_fewest 35 = .ok (.invokevirtual 92, 3) := by decide +kernel
theorem dX4_fewest_38 : decode cX4_fewest 38 = .ok (.istore_n 3, 1) := by decide +kernel
theorem dX4_fewest_39 : decode cX4_fewest 39 = .ok (.iload_n 3, 1) := by decide +kernel
theorem dX4_fewest_40 : decode cX4_fewest 40 = .ok (.ldc 96, 2) := by decide +kernel
theorem dX4_fewest_42 : decode cX4_fewest 42 = .ok (.if_icmp .ne 6, 3) := by decide +kernel
theorem dX4_fewest_45 : decode cX4_fewest 45 = .ok (.ldc 147, 2) := by decide +kernel
theorem dX4_fewest_47 : decode cX4_fewest 47 = .ok (.ireturn, 1) := by decide +kernel
theorem dX4_fewest_48 : decode cX4_fewest 48 = .ok (.iload_n 2, 1) := by decide +kernel
theorem dX4_fewest_49 : decode cX4_fewest 49 = .ok (.ifCond .ne 10, 3) := by decide +kernel
theorem dX4_fewest_52 : decode cX4_fewest 52 = .ok (.iload_n 3, 1) := by decide +kernel
theorem dX4_fewest_53 : decode cX4_fewest 53 = .ok (.invokestatic 107, 3) := by decide +kernel
theorem dX4_fewest_56 : decode cX4_fewest 56 = .ok (.goto 7, 3) := by decide +kernel
theorem dX4_fewest_59 : decode cX4_fewest 59 = .ok (.iload_n 3, 1) := by decide +kernel
theorem dX4_fewest_60 : decode cX4_fewest 60 = .ok (.invokestatic 101, 3) := by decide +kernel
theorem dX4_fewest_63 : decode cX4_fewest 63 = .ok (.ireturn, 1) := by decide +kernel
set_option maxRecDepth 20000 in
theorem ggX4_most_X2_follow : GoodIn wsX4_most wsX2_follow := goodIn_r _ [9, 10, 11, 12, 13, 14, 15, 16, 17, 18, 19, 20, 21, 22, 23, 8, 24, 25, 26, 27, 28, 29, 30, 31, 32, 33, 34, 35, 36, 37, 38, 39, 40, 41, 42, 43, 44, 45, 46, 47, 48, 60, 61, 62, 63, 64, 65, 66, 67] (by decide +kernel) (by decide +kernel)
set_option maxRecDepth 20000 in
theorem gX4_most_X2_follow : GoodIn wsX4_most (wsV RX4 128 RX2 yX2_follow wsX2_follow) := goodIn_app (goodIn_of _ (by decide +kernel)) ggX4_most_X2_follow
theorem dX4_most_0 : decode cX4_most 0 = .ok (.bipush 30, 2) := by decide +kernel
theorem dX4_most_2 : decode cX4_most 2 = .ok (.istore_n 1, 1) := by decide +kernel
theorem dX4_most_3 : decode cX4_most 3 = .ok (.iload_n 1, 1) := by decide +kernel
theorem dX4_most_4 : decode cX4_most 4 = .ok (.iconst 1, 1) := by decide +kernel
theorem dX4_most_5 : decode cX4_most 5 = .ok (.if_icmp .lt 33, 3) := by decide +kernel
theorem dX4_most_8 : decode cX4_most 8 = .ok (.aload_n 0, 1) := by decide +kernel
theorem dX4_most_9 : decode cX4_most 9 = .ok (.getfield 49, 3) := by decide +kernel
theorem dX4_most_12 : decode cX4_most 12 = .ok (.aload_n 0, 1) := by decide +kernel
theorem dX4_most_13 : decode cX4_most 13 = .ok (.getfield 12, 3) := by decide +kernel
theorem dX4_most_16 : decode cX4_most 16 = .ok (.iload_n 1, 1) := by decide +kernel
theorem dX4_most_17 : decode cX4_most 17 = .ok (.invokevirtual 128, 3) := by decide +kernel
theorem dX4_most_20 : decode cX4_most 20 = .ok (.aload_n 0, 1) := by decide +kernel
theorem dX4_most_21 : decode cX4_most 21 = .ok (.getfield 49, 3) := by decide +kernel
theorem dX4_most_24 : decode cX4_most 24 = .ok (.getfield 141, 3) := by decide +kernel
theorem dX4_most_27 : decode cX4_most 27 = .ok (.ifCond .ne 5, 3) := by decide +kernel
theorem dX4_most_30 : decode cX4_most 30 = .ok (.iload_n 1, 1) := by decide +kernel
theorem dX4_most_31 : decode cX4_most 31 = .ok (.ireturn, 1) := by decide +kernel
theorem dX4_most_32 : decode cX4_most 32 = .ok (.iinc 1 (-1), 3) := by decide +kernel
theorem dX4_most_35 : decode cX4_most 35 = .ok (.goto (-32), 3) := by decide +kernel
theorem dX4_most_38 : decode cX4_most 38 = .ok (.ldc 147, 2) := by decide +kernel
theorem dX4_most_40 : decode cX4_most 40 = .ok (.ireturn, 1) := by decide +kernel
set_option maxRecDepth 20000 in
theorem ggX4_count_X4_within : GoodIn wsX4_count wsX4_within := goodIn_r _ [9] (by decide +kernel) (by decide +kernel)
set_option maxRecDepth 20000 in
theorem gX4_count_X4_within : GoodIn wsX4_count (va_wsS RX4 114 yX4_within wsX4_within) := goodIn_app (goodIn_of _ (by decide +kernel)) ggX4_count_X4_within
set_option maxRecDepth 20000 in
theorem ggX4_count_X4_counted : GoodIn wsX4_count wsX4_counted := goodIn_r _ [13, 14, 15, 16, 43, 44, 45, 46, 47, 48, 49, 50, 51, 52, 53] (by decide +kernel) (by decide +kernel)
set_option maxRecDepth 20000 in
theorem gX4_count_X4_counted : GoodIn wsX4_count (wsV RX4 98 RX4 yX4_counted wsX4_counted) := goodIn_app (goodIn_of _ (by decide +kernel)) ggX4_count_X4_counted
set_option maxRecDepth 20000 in
theorem ggX4_count_J6_bitCount_0f7a4 : GoodIn wsX4_count wsJ6_bitCount_0f7a4 := goodIn_r _ [20, 21, 22, 23] (by decide +kernel) (by decide +kernel)
set_option maxRecDepth 20000 in
theorem gX4_count_J6_bitCount_0f7a4 : GoodIn wsX4_count (va_wsS RX4 148 yJ6_bitCount_0f7a4 wsJ6_bitCount_0f7a4) := goodIn_app (goodIn_of _ (by decide +kernel)) ggX4_count_J6_bitCount_0f7a4
set_option maxRecDepth 20000 in
theorem ggX4_count_X0_burstSpans : GoodIn wsX4_count wsX0_burstSpans := goodIn_r _ [28, 29, 30, 31, 32, 27, 33, 34, 54, 55, 56, 57] (by decide +kernel) (by decide +kernel)
set_option maxRecDepth 20000 in
theorem gX4_count_X0_burstSpans : GoodIn wsX4_count (wsV RX4 153 RX0 yX0_burstSpans wsX0_burstSpans) := goodIn_app (goodIn_of _ (by decide +kernel)) ggX4_count_X0_burstSpans
set_option maxRecDepth 20000 in
theorem ggX4_count_X0_allLengths : GoodIn wsX4_count wsX0_allLengths := goodIn_r _ [38, 29, 39, 40, 41, 27, 42, 30, 31, 32, 33, 34, 54, 55, 56, 57] (by decide +kernel) (by decide +kernel)
set_option maxRecDepth 20000 in
theorem gX4_count_X0_allLengths : GoodIn wsX4_count (wsV RX4 156 RX0 yX0_allLengths wsX0_allLengths) := goodIn_app (goodIn_of _ (by decide +kernel)) ggX4_count_X0_allLengths
theorem dX4_count_0 : decode cX4_count 0 = .ok (.iload_n 1, 1) := by decide +kernel
theorem dX4_count_1 : decode cX4_count 1 = .ok (.iconst 0, 1) := by decide +kernel
theorem dX4_count_2 : decode cX4_count 2 = .ok (.bipush 10, 2) := by decide +kernel
theorem dX4_count_4 : decode cX4_count 4 = .ok (.invokestatic 114, 3) := by decide +kernel
theorem dX4_count_7 : decode cX4_count 7 = .ok (.ifCond .ne 10, 3) := by decide +kernel
theorem dX4_count_10 : decode cX4_count 10 = .ok (.aload_n 0, 1) := by decide +kernel
theorem dX4_count_11 : decode cX4_count 11 = .ok (.ldc 118, 2) := by decide +kernel
theorem dX4_count_13 : decode cX4_count 13 = .ok (.invokevirtual 98, 3) := by decide +kernel
theorem dX4_count_16 : decode cX4_count 16 = .ok (.ireturn, 1) := by decide +kernel
theorem dX4_count_17 : decode cX4_count 17 = .ok (.iload_n 1, 1) := by decide +kernel
theorem dX4_count_18 : decode cX4_count 18 = .ok (.tableswitch 101 0 10 #[58, 69, 77, 85, 101, 101, 101, 101, 101, 101, 93], 58) := by decide +kernel
theorem dX4_count_76 : decode cX4_count 76 = .ok (.aload_n 0, 1) := by decide +kernel
theorem dX4_count_77 : decode cX4_count 77 = .ok (.getfield 12, 3) := by decide +kernel
theorem dX4_count_80 : decode cX4_count 80 = .ok (.getfield 104, 3) := by decide +kernel
theorem dX4_count_83 : decode cX4_count 83 = .ok (.invokestatic 148, 3) := by decide +kernel
theorem dX4_count_86 : decode cX4_count 86 = .ok (.ireturn, 1) := by decide +kernel
theorem dX4_count_87 : decode cX4_count 87 = .ok (.aload_n 0, 1) := by decide +kernel
theorem dX4_count_88 : decode cX4_count 88 = .ok (.getfield 12, 3) := by decide +kernel
theorem dX4_count_91 : decode cX4_count 91 = .ok (.getfield 104, 3) := by decide +kernel
theorem dX4_count_94 : decode cX4_count 94 = .ok (.ireturn, 1) := by decide +kernel
theorem dX4_count_95 : decode cX4_count 95 = .ok (.aload_n 0, 1) := by decide +kernel
theorem dX4_count_96 : decode cX4_count 96 = .ok (.getfield 12, 3) := by decide +kernel
theorem dX4_count_99 : decode cX4_count 99 = .ok (.getfield 144, 3) := by decide +kernel
theorem dX4_count_102 : decode cX4_count 102 = .ok (.ireturn, 1) := by decide +kernel
theorem dX4_count_103 : decode cX4_count 103 = .ok (.aload_n 0, 1) := by decide +kernel
theorem dX4_count_104 : decode cX4_count 104 = .ok (.getfield 12, 3) := by decide +kernel
theorem dX4_count_107 : decode cX4_count 107 = .ok (.invokevirtual 153, 3) := by decide +kernel
theorem dX4_count_110 : decode cX4_count 110 = .ok (.ireturn, 1) := by decide +kernel
theorem dX4_count_111 : decode cX4_count 111 = .ok (.aload_n 0, 1) := by decide +kernel
theorem dX4_count_112 : decode cX4_count 112 = .ok (.getfield 12, 3) := by decide +kernel
theorem dX4_count_115 : decode cX4_count 115 = .ok (.invokevirtual 156, 3) := by decide +kernel
theorem dX4_count_118 : decode cX4_count 118 = .ok (.ireturn, 1) := by decide +kernel
theorem dX4_count_119 : decode cX4_count 119 = .ok (.aload_n 0, 1) := by decide +kernel
theorem dX4_count_120 : decode cX4_count 120 = .ok (.getfield 12, 3) := by decide +kernel
theorem dX4_count_123 : decode cX4_count 123 = .ok (.getfield 88, 3) := by decide +kernel
theorem dX4_count_126 : decode cX4_count 126 = .ok (.iload_n 1, 1) := by decide +kernel
theorem dX4_count_127 : decode cX4_count 127 = .ok (.iconst 4, 1) := by decide +kernel
theorem dX4_count_128 : decode cX4_count 128 = .ok (.isub, 1) := by decide +kernel
theorem dX4_count_129 : decode cX4_count 129 = .ok (.iaload, 1) := by decide +kernel
theorem dX4_count_130 : decode cX4_count 130 = .ok (.ireturn, 1) := by decide +kernel
set_option maxRecDepth 20000 in
theorem ggX4_shuttle_X4_within : GoodIn wsX4_shuttle wsX4_within := goodIn_r _ [5] (by decide +kernel) (by decide +kernel)
set_option maxRecDepth 20000 in
theorem gX4_shuttle_X4_within : GoodIn wsX4_shuttle (va_wsS RX4 114 yX4_within wsX4_within) := goodIn_app (goodIn_of _ (by decide +kernel)) ggX4_shuttle_X4_within
set_option maxRecDepth 20000 in
theorem ggX4_shuttle_X4_isTrip : GoodIn wsX4_shuttle wsX4_isTrip := goodIn_r _ [8, 2, 3, 4, 5] (by decide +kernel) (by decide +kernel)
set_option maxRecDepth 20000 in
theorem gX4_shuttle_X4_isTrip : GoodIn wsX4_shuttle (va_wsS RX4 159 yX4_isTrip wsX4_isTrip) := goodIn_app (goodIn_of _ (by decide +kernel)) ggX4_shuttle_X4_isTrip
set_option maxRecDepth 20000 in
theorem ggX4_shuttle_X4_counted : GoodIn wsX4_shuttle wsX4_counted := goodIn_r _ [12, 13, 14, 15, 23, 24, 25, 26, 27, 28, 29, 30, 31, 32, 33] (by decide +kernel) (by decide +kernel)
set_option maxRecDepth 20000 in
theorem gX4_shuttle_X4_counted : GoodIn wsX4_shuttle (wsV RX4 98 RX4 yX4_counted wsX4_counted) := goodIn_app (goodIn_of _ (by decide +kernel)) ggX4_shuttle_X4_counted
set_option maxRecDepth 20000 in
theorem ggX4_shuttle_X4_broughtInHour : GoodIn wsX4_shuttle wsX4_broughtInHour := goodIn_r _ [18, 19, 20, 21, 22] (by decide +kernel) (by decide +kernel)
set_option maxRecDepth 20000 in
theorem gX4_shuttle_X4_broughtInHour : GoodIn wsX4_shuttle (va_wsS RX4 163 yX4_broughtInHour wsX4_broughtInHour) := goodIn_app (goodIn_of _ (by decide +kernel)) ggX4_shuttle_X4_broughtInHour
theorem dX4_shuttle_0 : decode cX4_shuttle 0 = .ok (.iload_n 1, 1) := by decide +kernel
theorem dX4_shuttle_1 : decode cX4_shuttle 1 = .ok (.iconst 1, 1) := by decide +kernel
theorem dX4_shuttle_2 : decode cX4_shuttle 2 = .ok (.bipush 20, 2) := by decide +kernel
theorem dX4_shuttle_4 : decode cX4_shuttle 4 = .ok (.invokestatic 114, 3) := by decide +kernel
theorem dX4_shuttle_7 : decode cX4_shuttle 7 = .ok (.ifCond .eq 15, 3) := by decide +kernel
theorem dX4_shuttle_10 : decode cX4_shuttle 10 = .ok (.iload_n 2, 1) := by decide +kernel
theorem dX4_shuttle_11 : decode cX4_shuttle 11 = .ok (.iload_n 3, 1) := by decide +kernel
theorem dX4_shuttle_12 : decode cX4_shuttle 12 = .ok (.iload 4, 2) := by decide +kernel
theorem dX4_shuttle_14 : decode cX4_shuttle 14 = .ok (.iload 5, 2) := by decide +kernel
theorem dX4_shuttle_16 : decode cX4_shuttle 16 = .ok (.invokestatic 159, 3) := by decide +kernel
theorem dX4_shuttle_19 : decode cX4_shuttle 19 = .ok (.ifCond .ne 10, 3) := by decide +kernel
theorem dX4_shuttle_22 : decode cX4_shuttle 22 = .ok (.aload_n 0, 1) := by decide +kernel
theorem dX4_shuttle_23 : decode cX4_shuttle 23 = .ok (.ldc 118, 2) := by decide +kernel
theorem dX4_shuttle_25 : decode cX4_shuttle 25 = .ok (.invokevirtual 98, 3) := by decide +kernel
theorem dX4_shuttle_28 : decode cX4_shuttle 28 = .ok (.ireturn, 1) := by decide +kernel
theorem dX4_shuttle_29 : decode cX4_shuttle 29 = .ok (.iload_n 1, 1) := by decide +kernel
theorem dX4_shuttle_30 : decode cX4_shuttle 30 = .ok (.iload_n 2, 1) := by decide +kernel
theorem dX4_shuttle_31 : decode cX4_shuttle 31 = .ok (.iload_n 3, 1) := by decide +kernel
theorem dX4_shuttle_32 : decode cX4_shuttle 32 = .ok (.iload 4, 2) := by decide +kernel
theorem dX4_shuttle_34 : decode cX4_shuttle 34 = .ok (.iload 5, 2) := by decide +kernel
theorem dX4_shuttle_36 : decode cX4_shuttle 36 = .ok (.invokestatic 163, 3) := by decide +kernel
theorem dX4_shuttle_39 : decode cX4_shuttle 39 = .ok (.ireturn, 1) := by decide +kernel
set_option maxRecDepth 20000 in
theorem ggX4_tanks_X4_within : GoodIn wsX4_tanks wsX4_within := goodIn_r _ [6] (by decide +kernel) (by decide +kernel)
set_option maxRecDepth 20000 in
theorem gX4_tanks_X4_within : GoodIn wsX4_tanks (va_wsS RX4 114 yX4_within wsX4_within) := goodIn_app (goodIn_of _ (by decide +kernel)) ggX4_tanks_X4_within
set_option maxRecDepth 20000 in
theorem ggX4_tanks_X4_isTrip : GoodIn wsX4_tanks wsX4_isTrip := goodIn_r _ [9, 3, 4, 5, 6] (by decide +kernel) (by decide +kernel)
set_option maxRecDepth 20000 in
theorem gX4_tanks_X4_isTrip : GoodIn wsX4_tanks (va_wsS RX4 159 yX4_isTrip wsX4_isTrip) := goodIn_app (goodIn_of _ (by decide +kernel)) ggX4_tanks_X4_isTrip
set_option maxRecDepth 20000 in
theorem ggX4_tanks_X4_counted : GoodIn wsX4_tanks wsX4_counted := goodIn_r _ [13, 14, 15, 16, 24, 25, 26, 27, 28, 29, 30, 31, 32, 33, 34] (by decide +kernel) (by decide +kernel)
set_option maxRecDepth 20000 in
theorem gX4_tanks_X4_counted : GoodIn wsX4_tanks (wsV RX4 98 RX4 yX4_counted wsX4_counted) := goodIn_app (goodIn_of _ (by decide +kernel)) ggX4_tanks_X4_counted
set_option maxRecDepth 20000 in
theorem ggX4_tanks_X4_broughtInHour : GoodIn wsX4_tanks wsX4_broughtInHour := goodIn_r _ [19, 20, 21, 22, 23] (by decide +kernel) (by decide +kernel)
set_option maxRecDepth 20000 in
theorem gX4_tanks_X4_broughtInHour : GoodIn wsX4_tanks (va_wsS RX4 163 yX4_broughtInHour wsX4_broughtInHour) := goodIn_app (goodIn_of _ (by decide +kernel)) ggX4_tanks_X4_broughtInHour
theorem dX4_tanks_0 : decode cX4_tanks 0 = .ok (.iload_n 1, 1) := by decide +kernel
theorem dX4_tanks_1 : decode cX4_tanks 1 = .ok (.iconst 1, 1) := by decide +kernel
theorem dX4_tanks_2 : decode cX4_tanks 2 = .ok (.sipush 9999, 3) := by decide +kernel
theorem dX4_tanks_5 : decode cX4_tanks 5 = .ok (.invokestatic 114, 3) := by decide +kernel
theorem dX4_tanks_8 : decode cX4_tanks 8 = .ok (.ifCond .eq 15, 3) := by decide +kernel
theorem dX4_tanks_11 : decode cX4_tanks 11 = .ok (.iload_n 2, 1) := by decide +kernel
theorem dX4_tanks_12 : decode cX4_tanks 12 = .ok (.iload_n 3, 1) := by decide +kernel
theorem dX4_tanks_13 : decode cX4_tanks 13 = .ok (.iload 4, 2) := by decide +kernel
theorem dX4_tanks_15 : decode cX4_tanks 15 = .ok (.iload 5, 2) := by decide +kernel
theorem dX4_tanks_17 : decode cX4_tanks 17 = .ok (.invokestatic 159, 3) := by decide +kernel
theorem dX4_tanks_20 : decode cX4_tanks 20 = .ok (.ifCond .ne 10, 3) := by decide +kernel
theorem dX4_tanks_23 : decode cX4_tanks 23 = .ok (.aload_n 0, 1) := by decide +kernel
theorem dX4_tanks_24 : decode cX4_tanks 24 = .ok (.ldc 118, 2) := by decide +kernel
theorem dX4_tanks_26 : decode cX4_tanks 26 = .ok (.invokevirtual 98, 3) := by decide +kernel
theorem dX4_tanks_29 : decode cX4_tanks 29 = .ok (.ireturn, 1) := by decide +kernel
theorem dX4_tanks_30 : decode cX4_tanks 30 = .ok (.iconst 1, 1) := by decide +kernel
theorem dX4_tanks_31 : decode cX4_tanks 31 = .ok (.istore 6, 2) := by decide +kernel
theorem dX4_tanks_33 : decode cX4_tanks 33 = .ok (.iload 6, 2) := by decide +kernel
theorem dX4_tanks_35 : decode cX4_tanks 35 = .ok (.bipush 20, 2) := by decide +kernel
theorem dX4_tanks_37 : decode cX4_tanks 37 = .ok (.if_icmp .gt 27, 3) := by decide +kernel
theorem dX4_tanks_40 : decode cX4_tanks 40 = .ok (.iload 6, 2) := by decide +kernel
theorem dX4_tanks_42 : decode cX4_tanks 42 = .ok (.iload_n 2, 1) := by decide +kernel
theorem dX4_tanks_43 : decode cX4_tanks 43 = .ok (.iload_n 3, 1) := by decide +kernel
theorem dX4_tanks_44 : decode cX4_tanks 44 = .ok (.iload 4, 2) := by decide +kernel
theorem dX4_tanks_46 : decode cX4_tanks 46 = .ok (.iload 5, 2) := by decide +kernel
theorem dX4_tanks_48 : decode cX4_tanks 48 = .ok (.invokestatic 163, 3) := by decide +kernel
theorem dX4_tanks_51 : decode cX4_tanks 51 = .ok (.iload_n 1, 1) := by decide +kernel
theorem dX4_tanks_52 : decode cX4_tanks 52 = .ok (.if_icmp .lt 6, 3) := by decide +kernel
theorem dX4_tanks_55 : decode cX4_tanks 55 = .ok (.iload 6, 2) := by decide +kernel
theorem dX4_tanks_57 : decode cX4_tanks 57 = .ok (.ireturn, 1) := by decide +kernel
theorem dX4_tanks_58 : decode cX4_tanks 58 = .ok (.iinc 6 1, 3) := by decide +kernel
theorem dX4_tanks_61 : decode cX4_tanks 61 = .ok (.goto (-28), 3) := by decide +kernel
theorem dX4_tanks_64 : decode cX4_tanks 64 = .ok (.ldc 147, 2) := by decide +kernel
theorem dX4_tanks_66 : decode cX4_tanks 66 = .ok (.ireturn, 1) := by decide +kernel
set_option maxRecDepth 20000 in
theorem ggX4_type_X4_within : GoodIn wsX4_type wsX4_within := goodIn_r _ [8] (by decide +kernel) (by decide +kernel)
set_option maxRecDepth 20000 in
theorem gX4_type_X4_within : GoodIn wsX4_type (va_wsS RX4 114 yX4_within wsX4_within) := goodIn_app (goodIn_of _ (by decide +kernel)) ggX4_type_X4_within
set_option maxRecDepth 20000 in
theorem ggX4_type_X4_counted : GoodIn wsX4_type wsX4_counted := goodIn_r _ [12, 13, 14, 15, 23, 24, 25, 26, 27, 28, 29, 30, 31, 32, 33] (by decide +kernel) (by decide +kernel)
set_option maxRecDepth 20000 in
theorem gX4_type_X4_counted : GoodIn wsX4_type (wsV RX4 98 RX4 yX4_counted wsX4_counted) := goodIn_app (goodIn_of _ (by decide +kernel)) ggX4_type_X4_counted
set_option maxRecDepth 20000 in
theorem ggX4_type_X3_put : GoodIn wsX4_type wsX3_put := goodIn_r _ [20, 21, 22, 34, 35, 36, 37, 38, 39] (by decide +kernel) (by decide +kernel)
set_option maxRecDepth 20000 in
theorem gX4_type_X3_put : GoodIn wsX4_type (wsV RX4 171 RX3 yX3_put wsX3_put) := goodIn_app (goodIn_of _ (by decide +kernel)) ggX4_type_X3_put
theorem dX4_type_0 : decode cX4_type 0 = .ok (.iload_n 1, 1) := by decide +kernel
theorem dX4_type_1 : decode cX4_type 1 = .ok (.iconst 0, 1) := by decide +kernel
theorem dX4_type_2 : decode cX4_type 2 = .ok (.bipush 127, 2) := by decide +kernel
theorem dX4_type_4 : decode cX4_type 4 = .ok (.invokestatic 114, 3) := by decide +kernel
theorem dX4_type_7 : decode cX4_type 7 = .ok (.ifCond .ne 10, 3) := by decide +kernel
theorem dX4_type_10 : decode cX4_type 10 = .ok (.aload_n 0, 1) := by decide +kernel
theorem dX4_type_11 : decode cX4_type 11 = .ok (.ldc 118, 2) := by decide +kernel
theorem dX4_type_13 : decode cX4_type 13 = .ok (.invokevirtual 98, 3) := by decide +kernel
theorem dX4_type_16 : decode cX4_type 16 = .ok (.ireturn, 1) := by decide +kernel
theorem dX4_type_17 : decode cX4_type 17 = .ok (.aload_n 0, 1) := by decide +kernel
theorem dX4_type_18 : decode cX4_type 18 = .ok (.getfield 42, 3) := by decide +kernel
theorem dX4_type_21 : decode cX4_type 21 = .ok (.getfield 167, 3) := by decide +kernel
theorem dX4_type_24 : decode cX4_type 24 = .ok (.bipush 120, 2) := by decide +kernel
theorem dX4_type_26 : decode cX4_type 26 = .ok (.if_icmp .lt 10, 3) := by decide +kernel
theorem dX4_type_29 : decode cX4_type 29 = .ok (.aload_n 0, 1) := by decide +kernel
theorem dX4_type_30 : decode cX4_type 30 = .ok (.ldc 170, 2) := by decide +kernel
theorem dX4_type_32 : decode cX4_type 32 = .ok (.invokevirtual 98, 3) := by decide +kernel
theorem dX4_type_35 : decode cX4_type 35 = .ok (.ireturn, 1) := by decide +kernel
theorem dX4_type_36 : decode cX4_type 36 = .ok (.aload_n 0, 1) := by decide +kernel
theorem dX4_type_37 : decode cX4_type 37 = .ok (.getfield 42, 3) := by decide +kernel
theorem dX4_type_40 : decode cX4_type 40 = .ok (.iload_n 1, 1) := by decide +kernel
theorem dX4_type_41 : decode cX4_type 41 = .ok (.invokevirtual 171, 3) := by decide +kernel
theorem dX4_type_44 : decode cX4_type 44 = .ok (.aload_n 0, 1) := by decide +kernel
theorem dX4_type_45 : decode cX4_type 45 = .ok (.getfield 42, 3) := by decide +kernel
theorem dX4_type_48 : decode cX4_type 48 = .ok (.getfield 167, 3) := by decide +kernel
theorem dX4_type_51 : decode cX4_type 51 = .ok (.ireturn, 1) := by decide +kernel
theorem dX4_clear_0 : decode cX4_clear 0 = .ok (.aload_n 0, 1) := by decide +kernel
theorem dX4_clear_1 : decode cX4_clear 1 = .ok (.getfield 42, 3) := by decide +kernel
theorem dX4_clear_4 : decode cX4_clear 4 = .ok (.getfield 167, 3) := by decide +kernel
theorem dX4_clear_7 : decode cX4_clear 7 = .ok (.istore_n 1, 1) := by decide +kernel
theorem dX4_clear_8 : decode cX4_clear 8 = .ok (.aload_n 0, 1) := by decide +kernel
theorem dX4_clear_9 : decode cX4_clear 9 = .ok (.getfield 42, 3) := by decide +kernel
theorem dX4_clear_12 : decode cX4_clear 12 = .ok (.iconst 0, 1) := by decide +kernel
theorem dX4_clear_13 : decode cX4_clear 13 = .ok (.putfield 167, 3) := by decide +kernel
theorem dX4_clear_16 : decode cX4_clear 16 = .ok (.iload_n 1, 1) := by decide +kernel
theorem dX4_clear_17 : decode cX4_clear 17 = .ok (.ireturn, 1) := by decide +kernel
set_option maxRecDepth 20000 in
theorem ggX4_does_X3_isRead : GoodIn wsX4_does wsX3_isRead := goodIn_r _ [10, 11, 12, 13, 14, 15, 16, 9, 17, 18, 19, 20, 21, 22, 23, 24, 25, 26, 27, 28, 29, 30, 31, 32, 33, 34, 35, 36, 37, 38, 39, 40, 41, 42, 158, 159, 160, 161, 162, 163] (by decide +kernel) (by decide +kernel)
set_option maxRecDepth 20000 in
theorem gX4_does_X3_isRead : GoodIn wsX4_does (wsV RX4 175 RX3 yX3_isRead wsX3_isRead) := goodIn_app (goodIn_of _ (by decide +kernel)) ggX4_does_X3_isRead
set_option maxRecDepth 20000 in
theorem ggX4_does_X4_keepBefore : GoodIn wsX4_does wsX4_keepBefore := goodIn_r _ [46, 5, 4, 47, 48, 49, 50, 51, 52, 53, 54, 55, 56, 57, 58, 59, 147, 148, 149, 150, 151, 152, 153, 154, 155, 156, 157, 164, 165, 166, 167] (by decide +kernel) (by decide +kernel)
set_option maxRecDepth 20000 in
theorem gX4_does_X4_keepBefore : GoodIn wsX4_does (wsV RX4 60 RX4 yX4_keepBefore wsX4_keepBefore) := goodIn_app (goodIn_of _ (by decide +kernel)) ggX4_does_X4_keepBefore
set_option maxRecDepth 20000 in
theorem ggX4_does_X4_obeyed : GoodIn wsX4_does wsX4_obeyed := goodIn_r _ [63, 1, 64, 4, 65, 66, 67, 9, 68, 35, 69, 70, 71, 50, 72, 73, 52, 74, 40, 41, 42, 75, 76, 77, 78, 54, 79, 80, 81, 82, 59, 83, 84, 85, 86, 53, 87, 88, 89, 90, 91, 92, 93, 94, 95, 96, 97, 98, 99, 100, 101, 102, 103, 104, 105, 106, 107, 108, 109, 110, 111, 112, 113, 114, 115, 116, 117, 118, 119, 120, 121, 122, 147, 148, 149, 150, 151, 152, 153, 154, 155, 156, 157, 158, 159, 160, 161, 162, 163, 164, 165, 166, 167] (by decide +kernel) (by decide +kernel)
set_option maxRecDepth 20000 in
theorem gX4_does_X4_obeyed : GoodIn wsX4_does (wsV RX4 185 RX4 yX4_obeyed wsX4_obeyed) := goodIn_app (goodIn_of _ (by decide +kernel)) ggX4_does_X4_obeyed
set_option maxRecDepth 20000 in
theorem ggX4_does_X4_isRefusal : GoodIn wsX4_does wsX4_isRefusal := goodIn_r _ [125, 126, 127, 128] (by decide +kernel) (by decide +kernel)
set_option maxRecDepth 20000 in
theorem gX4_does_X4_isRefusal : GoodIn wsX4_does (va_wsS RX4 188 yX4_isRefusal wsX4_isRefusal) := goodIn_app (goodIn_of _ (by decide +kernel)) ggX4_does_X4_isRefusal
set_option maxRecDepth 20000 in
theorem ggX4_does_X0_copyFrom : GoodIn wsX4_does wsX0_copyFrom := goodIn_r _ [51, 52, 53, 54, 55, 56, 57, 58, 59, 164, 165, 166, 167] (by decide +kernel) (by decide +kernel)
set_option maxRecDepth 20000 in
theorem gX4_does_X0_copyFrom : GoodIn wsX4_does (wsV RX4 191 RX0 yX0_copyFrom wsX0_copyFrom) := goodIn_app (goodIn_of _ (by decide +kernel)) ggX4_does_X0_copyFrom
set_option maxRecDepth 20000 in
theorem ggX4_does_X4_settled : GoodIn wsX4_does wsX4_settled := goodIn_r _ [132, 133, 134, 5, 135, 136, 137, 138, 139, 123, 124, 41, 125, 126, 127, 128, 140, 141, 142, 143, 144, 145, 146, 47, 48, 49, 50, 51, 52, 53, 54, 55, 56, 57, 58, 59, 147, 148, 149, 150, 151, 152, 153, 154, 155, 156, 157, 164, 165, 166, 167] (by decide +kernel) (by decide +kernel)
set_option maxRecDepth 20000 in
theorem gX4_does_X4_settled : GoodIn wsX4_does (wsV RX4 67 RX4 yX4_settled wsX4_settled) := goodIn_app (goodIn_of _ (by decide +kernel)) ggX4_does_X4_settled
theorem dX4_does_0 : decode cX4_does 0 = .ok (.aload_n 0, 1) := by decide +kernel
theorem dX4_does_1 : decode cX4_does 1 = .ok (.getfield 42, 3) := by decide +kernel
theorem dX4_does_4 : decode cX4_does 4 = .ok (.invokevirtual 175, 3) := by decide +kernel
theorem dX4_does_7 : decode cX4_does 7 = .ok (.ifCond .ne 14, 3) := by decide +kernel
theorem dX4_does_10 : decode cX4_does 10 = .ok (.bipush (-10), 2) := by decide +kernel
theorem dX4_does_12 : decode cX4_does 12 = .ok (.aload_n 0, 1) := by decide +kernel
theorem dX4_does_13 : decode cX4_does 13 = .ok (.getfield 42, 3) := by decide +kernel
theorem dX4_does_16 : decode cX4_does 16 = .ok (.getfield 179, 3) := by decide +kernel
theorem dX4_does_19 : decode cX4_does 19 = .ok (.isub, 1) := by decide +kernel
theorem dX4_does_20 : decode cX4_does 20 = .ok (.ireturn, 1) := by decide +kernel
theorem dX4_does_21 : decode cX4_does 21 = .ok (.aload_n 0, 1) := by decide +kernel
theorem dX4_does_22 : decode cX4_does 22 = .ok (.invokevirtual 60, 3) := by decide +kernel
theorem dX4_does_25 : decode cX4_does 25 = .ok (.iconst 0, 1) := by decide +kernel
theorem dX4_does_26 : decode cX4_does 26 = .ok (.istore_n 1, 1) := by decide +kernel
theorem dX4_does_27 : decode cX4_does 27 = .ok (.iload_n 1, 1) := by decide +kernel
theorem dX4_does_28 : decode cX4_does 28 = .ok (.aload_n 0, 1) := by decide +kernel
theorem dX4_does_29 : decode cX4_does 29 = .ok (.getfield 42, 3) := by decide +kernel
theorem dX4_does_32 : decode cX4_does 32 = .ok (.getfield 182, 3) := by decide +kernel
theorem dX4_does_35 : decode cX4_does 35 = .ok (.if_icmp .ge 37, 3) := by decide +kernel
theorem dX4_does_38 : decode cX4_does 38 = .ok (.aload_n 0, 1) := by decide +kernel
theorem dX4_does_39 : decode cX4_does 39 = .ok (.iload_n 1, 1) := by decide +kernel
theorem dX4_does_40 : decode cX4_does 40 = .ok (.invokevirtual 185, 3) := by decide +kernel
theorem dX4_does_43 : decode cX4_does 43 = .ok (.invokestatic 188, 3) := by decide +kernel
theorem dX4_does_46 : decode cX4_does 46 = .ok (.ifCond .eq 20, 3) := by decide +kernel
theorem dX4_does_49 : decode cX4_does 49 = .ok (.aload_n 0, 1) := by decide +kernel
theorem dX4_does_50 : decode cX4_does 50 = .ok (.getfield 12, 3) := by decide +kernel
theorem dX4_does_53 : decode cX4_does 53 = .ok (.aload_n 0, 1) := by decide +kernel
theorem dX4_does_54 : decode cX4_does 54 = .ok (.getfield 16, 3) := by decide +kernel
theorem dX4_does_57 : decode cX4_does 57 = .ok (.invokevirtual 191, 3) := by decide +kernel
theorem dX4_does_60 : decode cX4_does 60 = .ok (.sipush (-1000), 3) := by decide +kernel
theorem dX4_does_63 : decode cX4_does 63 = .ok (.iload_n 1, 1) := by decide +kernel
theorem dX4_does_64 : decode cX4_does 64 = .ok (.isub, 1) := by decide +kernel
theorem dX4_does_65 : decode cX4_does 65 = .ok (.ireturn, 1) := by decide +kernel
theorem dX4_does_66 : decode cX4_does 66 = .ok (.iinc 1 1, 3) := by decide +kernel
theorem dX4_does_69 : decode cX4_does 69 = .ok (.goto (-42), 3) := by decide +kernel
theorem dX4_does_72 : decode cX4_does 72 = .ok (.aload_n 0, 1) := by decide +kernel
theorem dX4_does_73 : decode cX4_does 73 = .ok (.aload_n 0, 1) := by decide +kernel
theorem dX4_does_74 : decode cX4_does 74 = .ok (.getfield 42, 3) := by decide +kernel
theorem dX4_does_77 : decode cX4_does 77 = .ok (.getfield 182, 3) := by decide +kernel
theorem dX4_does_80 : decode cX4_does 80 = .ok (.invokevirtual 67, 3) := by decide +kernel
theorem dX4_does_83 : decode cX4_does 83 = .ok (.ireturn, 1) := by decide +kernel
set_option maxRecDepth 20000 in
theorem ggX4_back_X4_counted : GoodIn wsX4_back wsX4_counted := goodIn_r _ [10, 11, 12, 13, 27, 28, 29, 30, 31, 32, 33, 34, 35, 36, 37] (by decide +kernel) (by decide +kernel)
set_option maxRecDepth 20000 in
theorem gX4_back_X4_counted : GoodIn wsX4_back (wsV RX4 98 RX4 yX4_counted wsX4_counted) := goodIn_app (goodIn_of _ (by decide +kernel)) ggX4_back_X4_counted
set_option maxRecDepth 20000 in
theorem ggX4_back_X0_copyFrom : GoodIn wsX4_back wsX0_copyFrom := goodIn_r _ [18, 19, 20, 21, 22, 23, 24, 25, 26, 38, 39, 40, 41] (by decide +kernel) (by decide +kernel)
set_option maxRecDepth 20000 in
theorem gX4_back_X0_copyFrom : GoodIn wsX4_back (wsV RX4 191 RX0 yX0_copyFrom wsX0_copyFrom) := goodIn_app (goodIn_of _ (by decide +kernel)) ggX4_back_X0_copyFrom
theorem dX4_back_0 : decode cX4_back 0 = .ok (.aload_n 0, 1) := by decide +kernel
theorem dX4_back_1 : decode cX4_back 1 = .ok (.getfield 27, 3) := by decide +kernel
theorem dX4_back_4 : decode cX4_back 4 = .ok (.ifCond .ne 10, 3) := by decide +kernel
theorem dX4_back_7 : decode cX4_back 7 = .ok (.aload_n 0, 1) := by decide +kernel
theorem dX4_back_8 : decode cX4_back 8 = .ok (.ldc 97, 2) := by decide +kernel
theorem dX4_back_10 : decode cX4_back 10 = .ok (.invokevirtual 98, 3) := by decide +kernel
theorem dX4_back_13 : decode cX4_back 13 = .ok (.ireturn, 1) := by decide +kernel
theorem dX4_back_14 : decode cX4_back 14 = .ok (.aload_n 0, 1) := by decide +kernel
theorem dX4_back_15 : decode cX4_back 15 = .ok (.aload_n 0, 1) := by decide +kernel
theorem dX4_back_16 : decode cX4_back 16 = .ok (.getfield 23, 3) := by decide +kernel
theorem dX4_back_19 : decode cX4_back 19 = .ok (.iconst 5, 1) := by decide +kernel
theorem dX4_back_20 : decode cX4_back 20 = .ok (.iadd, 1) := by decide +kernel
theorem dX4_back_21 : decode cX4_back 21 = .ok (.iconst 1, 1) := by decide +kernel
theorem dX4_back_22 : decode cX4_back 22 = .ok (.isub, 1) := by decide +kernel
theorem dX4_back_23 : decode cX4_back 23 = .ok (.iconst 5, 1) := by decide +kernel
theorem dX4_back_24 : decode cX4_back 24 = .ok (.irem, 1) := by decide +kernel
theorem dX4_back_25 : decode cX4_back 25 = .ok (.putfield 23, 3) := by decide +kernel
theorem dX4_back_28 : decode cX4_back 28 = .ok (.aload_n 0, 1) := by decide +kernel
theorem dX4_back_29 : decode cX4_back 29 = .ok (.dup, 1) := by decide +kernel
theorem dX4_back_30 : decode cX4_back 30 = .ok (.getfield 27, 3) := by decide +kernel
theorem dX4_back_33 : decode cX4_back 33 = .ok (.iconst 1, 1) := by decide +kernel
theorem dX4_back_34 : decode cX4_back 34 = .ok (.isub, 1) := by decide +kernel
theorem dX4_back_35 : decode cX4_back 35 = .ok (.putfield 27, 3) := by decide +kernel
theorem dX4_back_38 : decode cX4_back 38 = .ok (.aload_n 0, 1) := by decide +kernel
theorem dX4_back_39 : decode cX4_back 39 = .ok (.getfield 12, 3) := by decide +kernel
theorem dX4_back_42 : decode cX4_back 42 = .ok (.aload_n 0, 1) := by decide +kernel
theorem dX4_back_43 : decode cX4_back 43 = .ok (.getfield 19, 3) := by decide +kernel
theorem dX4_back_46 : decode cX4_back 46 = .ok (.aload_n 0, 1) := by decide +kernel
theorem dX4_back_47 : decode cX4_back 47 = .ok (.getfield 23, 3) := by decide +kernel
theorem dX4_back_50 : decode cX4_back 50 = .ok (.aaload, 1) := by decide +kernel
theorem dX4_back_51 : decode cX4_back 51 = .ok (.invokevirtual 191, 3) := by decide +kernel
theorem dX4_back_54 : decode cX4_back 54 = .ok (.aload_n 0, 1) := by decide +kernel
theorem dX4_back_55 : decode cX4_back 55 = .ok (.getfield 27, 3) := by decide +kernel
theorem dX4_back_58 : decode cX4_back 58 = .ok (.ireturn, 1) := by decide +kernel
set_option maxRecDepth 20000 in
theorem ggX4_told_X4_counted : GoodIn wsX4_told wsX4_counted := goodIn_r _ [12, 1, 2, 3, 13, 14, 15, 16, 17, 18, 19, 20, 21, 22, 23] (by decide +kernel) (by decide +kernel)
set_option maxRecDepth 20000 in
theorem gX4_told_X4_counted : GoodIn wsX4_told (wsV RX4 98 RX4 yX4_counted wsX4_counted) := goodIn_app (goodIn_of _ (by decide +kernel)) ggX4_told_X4_counted
theorem dX4_told_0 : decode cX4_told 0 = .ok (.iload_n 1, 1) := by decide +kernel
theorem dX4_told_1 : decode cX4_told 1 = .ok (.tableswitch 63 0 4 #[35, 40, 45, 50, 58], 35) := by decide +kernel
theorem dX4_told_36 : decode cX4_told 36 = .ok (.aload_n 0, 1) := by decide +kernel
theorem dX4_told_37 : decode cX4_told 37 = .ok (.getfield 30, 3) := by decide +kernel
theorem dX4_told_40 : decode cX4_told 40 = .ok (.ireturn, 1) := by decide +kernel
theorem dX4_told_41 : decode cX4_told 41 = .ok (.aload_n 0, 1) := by decide +kernel
theorem dX4_told_42 : decode cX4_told 42 = .ok (.getfield 33, 3) := by decide +kernel
theorem dX4_told_45 : decode cX4_told 45 = .ok (.ireturn, 1) := by decide +kernel
theorem dX4_told_46 : decode cX4_told 46 = .ok (.aload_n 0, 1) := by decide +kernel
theorem dX4_told_47 : decode cX4_told 47 = .ok (.getfield 36, 3) := by decide +kernel
theorem dX4_told_50 : decode cX4_told 50 = .ok (.ireturn, 1) := by decide +kernel
theorem dX4_told_51 : decode cX4_told 51 = .ok (.aload_n 0, 1) := by decide +kernel
theorem dX4_told_52 : decode cX4_told 52 = .ok (.getfield 42, 3) := by decide +kernel
theorem dX4_told_55 : decode cX4_told 55 = .ok (.getfield 167, 3) := by decide +kernel
theorem dX4_told_58 : decode cX4_told 58 = .ok (.ireturn, 1) := by decide +kernel
theorem dX4_told_59 : decode cX4_told 59 = .ok (.aload_n 0, 1) := by decide +kernel
theorem dX4_told_60 : decode cX4_told 60 = .ok (.getfield 27, 3) := by decide +kernel
theorem dX4_told_63 : decode cX4_told 63 = .ok (.ireturn, 1) := by decide +kernel
theorem dX4_told_64 : decode cX4_told 64 = .ok (.aload_n 0, 1) := by decide +kernel
theorem dX4_told_65 : decode cX4_told 65 = .ok (.ldc 118, 2) := by decide +kernel
theorem dX4_told_67 : decode cX4_told 67 = .ok (.invokevirtual 98, 3) := by decide +kernel
theorem dX4_told_70 : decode cX4_told 70 = .ok (.ireturn, 1) := by decide +kernel
set_option maxRecDepth 20000 in
theorem ggX4_digest_X4_told : GoodIn wsX4_digest wsX4_told := goodIn_r _ [10, 11, 12, 13, 14, 15, 16, 17, 18, 19, 20, 9, 21, 161, 162, 163, 164, 165, 166, 167, 168, 169, 170, 171, 176, 177, 178, 179, 180, 181] (by decide +kernel) (by decide +kernel)
set_option maxRecDepth 20000 in
theorem gX4_digest_X4_told : GoodIn wsX4_digest (wsV RX4 199 RX4 yX4_told wsX4_told) := goodIn_app (goodIn_of _ (by decide +kernel)) ggX4_digest_X4_told
set_option maxRecDepth 20000 in
theorem ggX4_digest_X4_count : GoodIn wsX4_digest wsX4_count := goodIn_r _ [25, 17, 1, 26, 5, 2, 27, 28, 9, 29, 18, 19, 20, 21, 11, 12, 13, 30, 31, 32, 33, 34, 35, 36, 37, 38, 39, 40, 41, 42, 43, 44, 45, 46, 47, 48, 49, 50, 51, 52, 53, 54, 55, 161, 162, 163, 164, 165, 166, 167, 168, 169, 170, 171, 172, 173, 174, 175] (by decide +kernel) (by decide +kernel)
set_option maxRecDepth 20000 in
theorem gX4_digest_X4_count : GoodIn wsX4_digest (wsV RX4 202 RX4 yX4_count wsX4_count) := goodIn_app (goodIn_of _ (by decide +kernel)) ggX4_digest_X4_count
set_option maxRecDepth 20000 in
theorem ggX4_digest_X4_of : GoodIn wsX4_digest wsX4_of := goodIn_r _ [59, 1, 17, 60, 61, 62, 40, 63, 42, 28, 9, 29, 27, 18, 19, 20, 21, 11, 12, 13, 64, 44, 45, 46, 47, 161, 162, 163, 164, 165, 166, 167, 168, 169, 170, 171, 172, 173, 174, 175] (by decide +kernel) (by decide +kernel)
set_option maxRecDepth 20000 in
theorem gX4_digest_X4_of : GoodIn wsX4_digest (wsV RX4 205 RX4 yX4_of wsX4_of) := goodIn_app (goodIn_of _ (by decide +kernel)) ggX4_digest_X4_of
set_option maxRecDepth 20000 in
theorem ggX4_digest_X4_loss : GoodIn wsX4_digest wsX4_loss := goodIn_r _ [68, 1, 17, 60, 61, 62, 40, 63, 42, 28, 9, 29, 27, 18, 19, 20, 21, 11, 12, 13, 69, 70, 71, 72, 43, 44, 45, 46, 47, 161, 162, 163, 164, 165, 166, 167, 168, 169, 170, 171, 172, 173, 174, 175] (by decide +kernel) (by decide +kernel)
set_option maxRecDepth 20000 in
theorem gX4_digest_X4_loss : GoodIn wsX4_digest (wsV RX4 208 RX4 yX4_loss wsX4_loss) := goodIn_app (goodIn_of _ (by decide +kernel)) ggX4_digest_X4_loss
set_option maxRecDepth 20000 in
theorem ggX4_digest_X4_node : GoodIn wsX4_digest wsX4_node := goodIn_r _ [76, 1, 17, 77, 2, 78, 79, 80, 81, 82, 40, 83, 42, 28, 9, 29, 27, 18, 19, 20, 21, 11, 12, 13, 84, 85, 86, 87, 88, 89, 90, 91, 92, 93, 94, 95, 96, 97, 98, 99, 100, 101, 102, 103, 104, 105, 106, 107, 108, 109, 110, 111, 112, 113, 114, 115, 116, 43, 44, 45, 46, 47, 117, 70, 71, 72, 118, 161, 162, 163, 164, 165, 166, 167, 168, 169, 170, 171, 172, 173, 174, 175, 182, 183, 184, 185] (by decide +kernel) (by decide +kernel)
set_option maxRecDepth 20000 in
theorem gX4_digest_X4_node : GoodIn wsX4_digest (wsV RX4 211 RX4 yX4_node wsX4_node) := goodIn_app (goodIn_of _ (by decide +kernel)) ggX4_digest_X4_node
set_option maxRecDepth 20000 in
theorem ggX4_digest_X4_run : GoodIn wsX4_digest wsX4_run := goodIn_r _ [122, 17, 77, 1, 2, 123, 124, 79, 5, 27, 28, 9, 29, 18, 19, 20, 21, 11, 12, 13, 84, 85, 86, 87, 88, 89, 90, 91, 92, 93, 94, 95, 96, 97, 98, 99, 100, 101, 102, 103, 104, 105, 106, 107, 108, 109, 110, 40, 111, 112, 113, 114, 115, 116, 43, 44, 45, 46, 47, 117, 70, 71, 72, 118, 161, 162, 163, 164, 165, 166, 167, 168, 169, 170, 171, 172, 173, 174, 175, 182, 183, 184, 185] (by decide +kernel) (by decide +kernel)
set_option maxRecDepth 20000 in
theorem gX4_digest_X4_run : GoodIn wsX4_digest (wsV RX4 214 RX4 yX4_run wsX4_run) := goodIn_app (goodIn_of _ (by decide +kernel)) ggX4_digest_X4_run
set_option maxRecDepth 20000 in
theorem ggX4_digest_X4_fewest : GoodIn wsX4_digest wsX4_fewest := goodIn_r _ [128, 17, 129, 1, 130, 131, 27, 28, 9, 29, 18, 19, 20, 21, 11, 12, 13, 132, 133, 134, 135, 136, 137, 138, 139, 140, 141, 97, 98, 99, 142, 143, 144, 145, 146, 147, 106, 148, 149, 114, 115, 40, 116, 43, 44, 45, 46, 47, 117, 70, 71, 72, 150, 151, 152, 153, 154, 155, 156, 161, 162, 163, 164, 165, 166, 167, 168, 169, 170, 171, 186, 172, 173, 174, 175] (by decide +kernel) (by decide +kernel)
set_option maxRecDepth 20000 in
theorem gX4_digest_X4_fewest : GoodIn wsX4_digest (wsV RX4 217 RX4 yX4_fewest wsX4_fewest) := goodIn_app (goodIn_of _ (by decide +kernel)) ggX4_digest_X4_fewest
set_option maxRecDepth 20000 in
theorem ggX4_digest_X4_most : GoodIn wsX4_digest wsX4_most := goodIn_r _ [160, 77, 1, 124, 131, 84, 85, 86, 87, 88, 89, 90, 91, 92, 93, 94, 95, 96, 97, 98, 99, 100, 101, 102, 103, 104, 105, 106, 107, 108, 109, 110, 40, 111, 112, 113, 114, 115, 116, 43, 44, 45, 46, 47, 117, 70, 71, 72, 118, 161, 162, 163, 164, 165, 166, 167, 168, 169, 170, 171, 182, 183, 184, 185, 172, 173, 174, 175] (by decide +kernel) (by decide +kernel)
set_option maxRecDepth 20000 in
theorem gX4_digest_X4_most : GoodIn wsX4_digest (wsV RX4 220 RX4 yX4_most wsX4_most) := goodIn_app (goodIn_of _ (by decide +kernel)) ggX4_digest_X4_most
theorem dX4_digest_0 : decode cX4_digest 0 = .ok (.aload_n 0, 1) := by decide +kernel
theorem dX4_digest_1 : decode cX4_digest 1 = .ok (.getfield 12, 3) := by decide +kernel
theorem dX4_digest_4 : decode cX4_digest 4 = .ok (.getfield 88, 3) := by decide +kernel
theorem dX4_digest_7 : decode cX4_digest 7 = .ok (.iconst 0, 1) := by decide +kernel
theorem dX4_digest_8 : decode cX4_digest 8 = .ok (.iaload, 1) := by decide +kernel
theorem dX4_digest_9 : decode cX4_digest 9 = .ok (.istore_n 1, 1) := by decide +kernel
theorem dX4_digest_10 : decode cX4_digest 10 = .ok (.ldc2_w 195, 3) := by decide +kernel
theorem dX4_digest_13 : decode cX4_digest 13 = .ok (.lstore_n 2, 1) := by decide +kernel
theorem dX4_digest_14 : decode cX4_digest 14 = .ok (.iconst 0, 1) := by decide +kernel
theorem dX4_digest_15 : decode cX4_digest 15 = .ok (.istore 4, 2) := by decide +kernel
theorem dX4_digest_17 : decode cX4_digest 17 = .ok (.iload 4, 2) := by decide +kernel
theorem dX4_digest_19 : decode cX4_digest 19 = .ok (.iconst 4, 1) := by decide +kernel
theorem dX4_digest_20 : decode cX4_digest 20 = .ok (.if_icmp .gt 23, 3) := by decide +kernel
theorem dX4_digest_23 : decode cX4_digest 23 = .ok (.ldc2_w 197, 3) := by decide +kernel
theorem dX4_digest_26 : decode cX4_digest 26 = .ok (.lload_n 2, 1) := by decide +kernel
theorem dX4_digest_27 : decode cX4_digest 27 = .ok (.lmul, 1) := by decide +kernel
theorem dX4_digest_28 : decode cX4_digest 28 = .ok (.aload_n 0, 1) := by decide +kernel
theorem dX4_digest_29 : decode cX4_digest 29 = .ok (.iload 4, 2) := by decide +kernel
theorem dX4_digest_31 : decode cX4_digest 31 = .ok (.invokevirtual 199, 3) := by decide +kernel
theorem dX4_digest_34 : decode cX4_digest 34 = .ok (.i2l, 1) := by decide +kernel
theorem dX4_digest_35 : decode cX4_digest 35 = .ok (.ladd, 1) := by decide +kernel
theorem dX4_digest_36 : decode cX4_digest 36 = .ok (.lstore_n 2, 1) := by decide +kernel
theorem dX4_digest_37 : decode cX4_digest 37 = .ok (.iinc 4 1, 3) := by decide +kernel
theorem dX4_digest_40 : decode cX4_digest 40 = .ok (.goto (-23), 3) := by decide +kernel
theorem dX4_digest_43 : decode cX4_digest 43 = .ok (.iconst 0, 1) := by decide +kernel
theorem dX4_digest_44 : decode cX4_digest 44 = .ok (.istore 4, 2) := by decide +kernel
theorem dX4_digest_46 : decode cX4_digest 46 = .ok (.iload 4, 2) := by decide +kernel
theorem dX4_digest_48 : decode cX4_digest 48 = .ok (.bipush 10, 2) := by decide +kernel
theorem dX4_digest_50 : decode cX4_digest 50 = .ok (.if_icmp .gt 23, 3) := by decide +kernel
theorem dX4_digest_53 : decode cX4_digest 53 = .ok (.ldc2_w 197, 3) := by decide +kernel
theorem dX4_digest_56 : decode cX4_digest 56 = .ok (.lload_n 2, 1) := by decide +kernel
theorem dX4_digest_57 : decode cX4_digest 57 = .ok (.lmul, 1) := by decide +kernel
theorem dX4_digest_58 : decode cX4_digest 58 = .ok (.aload_n 0, 1) := by decide +kernel
theorem dX4_digest_59 : decode cX4_digest 59 = .ok (.iload 4, 2) := by decide +kernel
theorem dX4_digest_61 : decode cX4_digest 61 = .ok (.invokevirtual 202, 3) := by decide +kernel
theorem dX4_digest_64 : decode cX4_digest 64 = .ok (.i2l, 1) := by decide +kernel
theorem dX4_digest_65 : decode cX4_digest 65 = .ok (.ladd, 1) := by decide +kernel
theorem dX4_digest_66 : decode cX4_digest 66 = .ok (.lstore_n 2, 1) := by decide +kernel
theorem dX4_digest_67 : decode cX4_digest 67 = .ok (.iinc 4 1, 3) := by decide +kernel
theorem dX4_digest_70 : decode cX4_digest 70 = .ok (.goto (-24), 3) := by decide +kernel
theorem dX4_digest_73 : decode cX4_digest 73 = .ok (.iconst 0, 1) := by decide +kernel
theorem dX4_digest_74 : decode cX4_digest 74 = .ok (.istore 4, 2) := by decide +kernel
theorem dX4_digest_76 : decode cX4_digest 76 = .ok (.iload 4, 2) := by decide +kernel
theorem dX4_digest_78 : decode cX4_digest 78 = .ok (.aload_n 0, 1) := by decide +kernel
theorem dX4_digest_79 : decode cX4_digest 79 = .ok (.getfield 12, 3) := by decide +kernel
theorem dX4_digest_82 : decode cX4_digest 82 = .ok (.getfield 144, 3) := by decide +kernel
theorem dX4_digest_85 : decode cX4_digest 85 = .ok (.if_icmp .ge 55, 3) := by decide +kernel
theorem dX4_digest_88 : decode cX4_digest 88 = .ok (.iconst 0, 1) := by decide +kernel
theorem dX4_digest_89 : decode cX4_digest 89 = .ok (.istore 5, 2) := by decide +kernel
theorem dX4_digest_91 : decode cX4_digest 91 = .ok (.iload 5, 2) := by decide +kernel
theorem dX4_digest_93 : decode cX4_digest 93 = .ok (.iconst 5, 1) := by decide +kernel
theorem dX4_digest_94 : decode cX4_digest 94 = .ok (.if_icmp .ge 25, 3) := by decide +kernel
theorem dX4_digest_97 : decode cX4_digest 97 = .ok (.ldc2_w 197, 3) := by decide +kernel
theorem dX4_digest_100 : decode cX4_digest 100 = .ok (.lload_n 2, 1) := by decide +kernel
theorem dX4_digest_101 : decode cX4_digest 101 = .ok (.lmul, 1) := by decide +kernel
theorem dX4_digest_102 : decode cX4_digest 102 = .ok (.aload_n 0, 1) := by decide +kernel
theorem dX4_digest_103 : decode cX4_digest 103 = .ok (.iload 4, 2) := by decide +kernel
theorem dX4_digest_105 : decode cX4_digest 105 = .ok (.iload 5, 2) := by decide +kernel
theorem dX4_digest_107 : decode cX4_digest 107 = .ok (.invokevirtual 205, 3) := by decide +kernel
theorem dX4_digest_110 : decode cX4_digest 110 = .ok (.i2l, 1) := by decide +kernel
theorem dX4_digest_111 : decode cX4_digest 111 = .ok (.ladd, 1) := by decide +kernel
theorem dX4_digest_112 : decode cX4_digest 112 = .ok (.lstore_n 2, 1) := by decide +kernel
theorem dX4_digest_113 : decode cX4_digest 113 = .ok (.iinc 5 1, 3) := by decide +kernel
theorem dX4_digest_116 : decode cX4_digest 116 = .ok (.goto (-25), 3) := by decide +kernel
theorem dX4_digest_119 : decode cX4_digest 119 = .ok (.ldc2_w 197, 3) := by decide +kernel
theorem dX4_digest_122 : decode cX4_digest 122 = .ok (.lload_n 2, 1) := by decide +kernel
theorem dX4_digest_123 : decode cX4_digest 123 = .ok (.lmul, 1) := by decide +kernel
theorem dX4_digest_124 : decode cX4_digest 124 = .ok (.aload_n 0, 1) := by decide +kernel
theorem dX4_digest_125 : decode cX4_digest 125 = .ok (.iload 4, 2) := by decide +kernel
theorem dX4_digest_127 : decode cX4_digest 127 = .ok (.iload_n 1, 1) := by decide +kernel
theorem dX4_digest_128 : decode cX4_digest 128 = .ok (.invokevirtual 208, 3) := by decide +kernel
theorem dX4_digest_131 : decode cX4_digest 131 = .ok (.i2l, 1) := by decide +kernel
theorem dX4_digest_132 : decode cX4_digest 132 = .ok (.ladd, 1) := by decide +kernel
theorem dX4_digest_133 : decode cX4_digest 133 = .ok (.lstore_n 2, 1) := by decide +kernel
theorem dX4_digest_134 : decode cX4_digest 134 = .ok (.iinc 4 1, 3) := by decide +kernel
theorem dX4_digest_137 : decode cX4_digest 137 = .ok (.goto (-61), 3) := by decide +kernel
theorem dX4_digest_140 : decode cX4_digest 140 = .ok (.iconst 0, 1) := by decide +kernel
theorem dX4_digest_141 : decode cX4_digest 141 = .ok (.istore 4, 2) := by decide +kernel
theorem dX4_digest_143 : decode cX4_digest 143 = .ok (.iload 4, 2) := by decide +kernel
theorem dX4_digest_145 : decode cX4_digest 145 = .ok (.aload_n 0, 1) := by decide +kernel
theorem dX4_digest_146 : decode cX4_digest 146 = .ok (.getfield 12, 3) := by decide +kernel
theorem dX4_digest_149 : decode cX4_digest 149 = .ok (.getfield 144, 3) := by decide +kernel
theorem dX4_digest_152 : decode cX4_digest 152 = .ok (.if_icmp .gt 39, 3) := by decide +kernel
theorem dX4_digest_155 : decode cX4_digest 155 = .ok (.ldc2_w 197, 3) := by decide +kernel
theorem dX4_digest_158 : decode cX4_digest 158 = .ok (.lload_n 2, 1) := by decide +kernel
theorem dX4_digest_159 : decode cX4_digest 159 = .ok (.lmul, 1) := by decide +kernel
theorem dX4_digest_160 : decode cX4_digest 160 = .ok (.aload_n 0, 1) := by decide +kernel
theorem dX4_digest_161 : decode cX4_digest 161 = .ok (.iload 4, 2) := by decide +kernel
theorem dX4_digest_163 : decode cX4_digest 163 = .ok (.iconst 0, 1) := by decide +kernel
theorem dX4_digest_164 : decode cX4_digest 164 = .ok (.invokevirtual 211, 3) := by decide +kernel
theorem dX4_digest_167 : decode cX4_digest 167 = .ok (.i2l, 1) := by decide +kernel
theorem dX4_digest_168 : decode cX4_digest 168 = .ok (.ladd, 1) := by decide +kernel
theorem dX4_digest_169 : decode cX4_digest 169 = .ok (.lstore_n 2, 1) := by decide +kernel
theorem dX4_digest_170 : decode cX4_digest 170 = .ok (.ldc2_w 197, 3) := by decide +kernel
theorem dX4_digest_173 : decode cX4_digest 173 = .ok (.lload_n 2, 1) := by decide +kernel
theorem dX4_digest_174 : decode cX4_digest 174 = .ok (.lmul, 1) := by decide +kernel
theorem dX4_digest_175 : decode cX4_digest 175 = .ok (.aload_n 0, 1) := by decide +kernel
theorem dX4_digest_176 : decode cX4_digest 176 = .ok (.iload 4, 2) := by decide +kernel
theorem dX4_digest_178 : decode cX4_digest 178 = .ok (.iconst 1, 1) := by decide +kernel
theorem dX4_digest_179 : decode cX4_digest 179 = .ok (.invokevirtual 211, 3) := by decide +kernel
theorem dX4_digest_182 : decode cX4_digest 182 = .ok (.i2l, 1) := by decide +kernel
theorem dX4_digest_183 : decode cX4_digest 183 = .ok (.ladd, 1) := by decide +kernel
theorem dX4_digest_184 : decode cX4_digest 184 = .ok (.lstore_n 2, 1) := by decide +kernel
theorem dX4_digest_185 : decode cX4_digest 185 = .ok (.iinc 4 1, 3) := by decide +kernel
theorem dX4_digest_188 : decode cX4_digest 188 = .ok (.goto (-45), 3) := by decide +kernel
theorem dX4_digest_191 : decode cX4_digest 191 = .ok (.iconst 0, 1) := by decide +kernel
theorem dX4_digest_192 : decode cX4_digest 192 = .ok (.istore 4, 2) := by decide +kernel
theorem dX4_digest_194 : decode cX4_digest 194 = .ok (.iload 4, 2) := by decide +kernel
theorem dX4_digest_196 : decode cX4_digest 196 = .ok (.iconst 2, 1) := by decide +kernel
theorem dX4_digest_197 : decode cX4_digest 197 = .ok (.if_icmp .gt 23, 3) := by decide +kernel
theorem dX4_digest_200 : decode cX4_digest 200 = .ok (.ldc2_w 197, 3) := by decide +kernel
theorem dX4_digest_203 : decode cX4_digest 203 = .ok (.lload_n 2, 1) := by decide +kernel
theorem dX4_digest_204 : decode cX4_digest 204 = .ok (.lmul, 1) := by decide +kernel
theorem dX4_digest_205 : decode cX4_digest 205 = .ok (.aload_n 0, 1) := by decide +kernel
theorem dX4_digest_206 : decode cX4_digest 206 = .ok (.iload 4, 2) := by decide +kernel
theorem dX4_digest_208 : decode cX4_digest 208 = .ok (.invokevirtual 214, 3) := by decide +kernel
theorem dX4_digest_211 : decode cX4_digest 211 = .ok (.i2l, 1) := by decide +kernel
theorem dX4_digest_212 : decode cX4_digest 212 = .ok (.ladd, 1) := by decide +kernel
theorem dX4_digest_213 : decode cX4_digest 213 = .ok (.lstore_n 2, 1) := by decide +kernel
theorem dX4_digest_214 : decode cX4_digest 214 = .ok (.iinc 4 1, 3) := by decide +kernel
theorem dX4_digest_217 : decode cX4_digest 217 = .ok (.goto (-23), 3) := by decide +kernel
theorem dX4_digest_220 : decode cX4_digest 220 = .ok (.ldc2_w 197, 3) := by decide +kernel
theorem dX4_digest_223 : decode cX4_digest 223 = .ok (.lload_n 2, 1) := by decide +kernel
theorem dX4_digest_224 : decode cX4_digest 224 = .ok (.lmul, 1) := by decide +kernel
theorem dX4_digest_225 : decode cX4_digest 225 = .ok (.aload_n 0, 1) := by decide +kernel
theorem dX4_digest_226 : decode cX4_digest 226 = .ok (.iload_n 1, 1) := by decide +kernel
theorem dX4_digest_227 : decode cX4_digest 227 = .ok (.iconst 0, 1) := by decide +kernel
theorem dX4_digest_228 : decode cX4_digest 228 = .ok (.invokevirtual 217, 3) := by decide +kernel
theorem dX4_digest_231 : decode cX4_digest 231 = .ok (.i2l, 1) := by decide +kernel
theorem dX4_digest_232 : decode cX4_digest 232 = .ok (.ladd, 1) := by decide +kernel
theorem dX4_digest_233 : decode cX4_digest 233 = .ok (.lstore_n 2, 1) := by decide +kernel
theorem dX4_digest_234 : decode cX4_digest 234 = .ok (.ldc2_w 197, 3) := by decide +kernel
theorem dX4_digest_237 : decode cX4_digest 237 = .ok (.lload_n 2, 1) := by decide +kernel
theorem dX4_digest_238 : decode cX4_digest 238 = .ok (.lmul, 1) := by decide +kernel
theorem dX4_digest_239 : decode cX4_digest 239 = .ok (.aload_n 0, 1) := by decide +kernel
theorem dX4_digest_240 : decode cX4_digest 240 = .ok (.iload_n 1, 1) := by decide +kernel
theorem dX4_digest_241 : decode cX4_digest 241 = .ok (.iconst 1, 1) := by decide +kernel
theorem dX4_digest_242 : decode cX4_digest 242 = .ok (.invokevirtual 217, 3) := by decide +kernel
theorem dX4_digest_245 : decode cX4_digest 245 = .ok (.i2l, 1) := by decide +kernel
theorem dX4_digest_246 : decode cX4_digest 246 = .ok (.ladd, 1) := by decide +kernel
theorem dX4_digest_247 : decode cX4_digest 247 = .ok (.lstore_n 2, 1) := by decide +kernel
theorem dX4_digest_248 : decode cX4_digest 248 = .ok (.ldc2_w 197, 3) := by decide +kernel
theorem dX4_digest_251 : decode cX4_digest 251 = .ok (.lload_n 2, 1) := by decide +kernel
theorem dX4_digest_252 : decode cX4_digest 252 = .ok (.lmul, 1) := by decide +kernel
theorem dX4_digest_253 : decode cX4_digest 253 = .ok (.aload_n 0, 1) := by decide +kernel
theorem dX4_digest_254 : decode cX4_digest 254 = .ok (.invokevirtual 220, 3) := by decide +kernel
theorem dX4_digest_257 : decode cX4_digest 257 = .ok (.i2l, 1) := by decide +kernel
theorem dX4_digest_258 : decode cX4_digest 258 = .ok (.ladd, 1) := by decide +kernel
theorem dX4_digest_259 : decode cX4_digest 259 = .ok (.lreturn, 1) := by decide +kernel
theorem dX4_within_0 : decode cX4_within 0 = .ok (.iload_n 0, 1) := by decide +kernel
theorem dX4_within_1 : decode cX4_within 1 = .ok (.iload_n 1, 1) := by decide +kernel
theorem dX4_within_2 : decode cX4_within 2 = .ok (.if_icmp .lt 12, 3) := by decide +kernel
theorem dX4_within_5 : decode cX4_within 5 = .ok (.iload_n 0, 1) := by decide +kernel
theorem dX4_within_6 : decode cX4_within 6 = .ok (.iload_n 2, 1) := by decide +kernel
theorem dX4_within_7 : decode cX4_within 7 = .ok (.if_icmp .gt 7, 3) := by decide +kernel
theorem dX4_within_10 : decode cX4_within 10 = .ok (.iconst 1, 1) := by decide +kernel
theorem dX4_within_11 : decode cX4_within 11 = .ok (.goto 4, 3) := by decide +kernel
theorem dX4_within_14 : decode cX4_within 14 = .ok (.iconst 0, 1) := by decide +kernel
theorem dX4_within_15 : decode cX4_within 15 = .ok (.ireturn, 1) := by decide +kernel
theorem dX4_isRefusal_0 : decode cX4_isRefusal 0 = .ok (.iload_n 0, 1) := by decide +kernel
theorem dX4_isRefusal_1 : decode cX4_isRefusal 1 = .ok (.ldc 118, 2) := by decide +kernel
theorem dX4_isRefusal_3 : decode cX4_isRefusal 3 = .ok (.if_icmp .eq 15, 3) := by decide +kernel
theorem dX4_isRefusal_6 : decode cX4_isRefusal 6 = .ok (.iload_n 0, 1) := by decide +kernel
theorem dX4_isRefusal_7 : decode cX4_isRefusal 7 = .ok (.ldc 97, 2) := by decide +kernel
theorem dX4_isRefusal_9 : decode cX4_isRefusal 9 = .ok (.if_icmp .eq 9, 3) := by decide +kernel
theorem dX4_isRefusal_12 : decode cX4_isRefusal 12 = .ok (.iload_n 0, 1) := by decide +kernel
theorem dX4_isRefusal_13 : decode cX4_isRefusal 13 = .ok (.ldc 170, 2) := by decide +kernel
theorem dX4_isRefusal_15 : decode cX4_isRefusal 15 = .ok (.if_icmp .ne 7, 3) := by decide +kernel
theorem dX4_isRefusal_18 : decode cX4_isRefusal 18 = .ok (.iconst 1, 1) := by decide +kernel
theorem dX4_isRefusal_19 : decode cX4_isRefusal 19 = .ok (.goto 4, 3) := by decide +kernel
theorem dX4_isRefusal_22 : decode cX4_isRefusal 22 = .ok (.iconst 0, 1) := by decide +kernel
theorem dX4_isRefusal_23 : decode cX4_isRefusal 23 = .ok (.ireturn, 1) := by decide +kernel
theorem dX4_counted_0 : decode cX4_counted 0 = .ok (.iload_n 1, 1) := by decide +kernel
theorem dX4_counted_1 : decode cX4_counted 1 = .ok (.lookupswitch 53 #[(-1000003, 40), (-1000002, 27)], 27) := by decide +kernel
theorem dX4_counted_28 : decode cX4_counted 28 = .ok (.aload_n 0, 1) := by decide +kernel
theorem dX4_counted_29 : decode cX4_counted 29 = .ok (.dup, 1) := by decide +kernel
theorem dX4_counted_30 : decode cX4_counted 30 = .ok (.getfield 30, 3) := by decide +kernel
theorem dX4_counted_33 : decode cX4_counted 33 = .ok (.iconst 1, 1) := by decide +kernel
theorem dX4_counted_34 : decode cX4_counted 34 = .ok (.iadd, 1) := by decide +kernel
theorem dX4_counted_35 : decode cX4_counted 35 = .ok (.putfield 30, 3) := by decide +kernel
theorem dX4_counted_38 : decode cX4_counted 38 = .ok (.goto 26, 3) := by decide +kernel
theorem dX4_counted_41 : decode cX4_counted 41 = .ok (.aload_n 0, 1) := by decide +kernel
theorem dX4_counted_42 : decode cX4_counted 42 = .ok (.dup, 1) := by decide +kernel
theorem dX4_counted_43 : decode cX4_counted 43 = .ok (.getfield 33, 3) := by decide +kernel
theorem dX4_counted_46 : decode cX4_counted 46 = .ok (.iconst 1, 1) := by decide +kernel
theorem dX4_counted_47 : decode cX4_counted 47 = .ok (.iadd, 1) := by decide +kernel
theorem dX4_counted_48 : decode cX4_counted 48 = .ok (.putfield 33, 3) := by decide +kernel
theorem dX4_counted_51 : decode cX4_counted 51 = .ok (.goto 13, 3) := by decide +kernel
theorem dX4_counted_54 : decode cX4_counted 54 = .ok (.aload_n 0, 1) := by decide +kernel
theorem dX4_counted_55 : decode cX4_counted 55 = .ok (.dup, 1) := by decide +kernel
theorem dX4_counted_56 : decode cX4_counted 56 = .ok (.getfield 36, 3) := by decide +kernel
theorem dX4_counted_59 : decode cX4_counted 59 = .ok (.iconst 1, 1) := by decide +kernel
theorem dX4_counted_60 : decode cX4_counted 60 = .ok (.iadd, 1) := by decide +kernel
theorem dX4_counted_61 : decode cX4_counted 61 = .ok (.putfield 36, 3) := by decide +kernel
theorem dX4_counted_64 : decode cX4_counted 64 = .ok (.iload_n 1, 1) := by decide +kernel
theorem dX4_counted_65 : decode cX4_counted 65 = .ok (.ireturn, 1) := by decide +kernel
set_option maxRecDepth 20000 in
theorem ggX4_keepBefore_X0_copyFrom : GoodIn wsX4_keepBefore wsX0_copyFrom := goodIn_r _ [7, 8, 9, 10, 11, 12, 13, 14, 15, 27, 28, 29, 30] (by decide +kernel) (by decide +kernel)
set_option maxRecDepth 20000 in
theorem gX4_keepBefore_X0_copyFrom : GoodIn wsX4_keepBefore (wsV RX4 191 RX0 yX0_copyFrom wsX0_copyFrom) := goodIn_app (goodIn_of _ (by decide +kernel)) ggX4_keepBefore_X0_copyFrom
theorem dX4_keepBefore_0 : decode cX4_keepBefore 0 = .ok (.aload_n 0, 1) := by decide +kernel
theorem dX4_keepBefore_1 : decode cX4_keepBefore 1 = .ok (.getfield 16, 3) := by decide +kernel
theorem dX4_keepBefore_4 : decode cX4_keepBefore 4 = .ok (.aload_n 0, 1) := by decide +kernel
theorem dX4_keepBefore_5 : decode cX4_keepBefore 5 = .ok (.getfield 12, 3) := by decide +kernel
theorem dX4_keepBefore_8 : decode cX4_keepBefore 8 = .ok (.invokevirtual 191, 3) := by decide +kernel
theorem dX4_keepBefore_11 : decode cX4_keepBefore 11 = .ok (.return_, 1) := by decide +kernel
set_option maxRecDepth 20000 in
theorem ggX4_settled_X4_isRefusal : GoodIn wsX4_settled wsX4_isRefusal := goodIn_r _ [12, 13, 14, 15] (by decide +kernel) (by decide +kernel)
set_option maxRecDepth 20000 in
theorem gX4_settled_X4_isRefusal : GoodIn wsX4_settled (va_wsS RX4 188 yX4_isRefusal wsX4_isRefusal) := goodIn_app (goodIn_of _ (by decide +kernel)) ggX4_settled_X4_isRefusal
