set_option maxRecDepth 20000 in
theorem ggX4_settled_X4_counted : GoodIn wsX4_settled wsX4_counted := goodIn_r _ [19, 20, 21, 22, 36, 37, 38, 39, 40, 41, 42, 43, 44, 45, 46] (by decide +kernel) (by decide +kernel)
set_option maxRecDepth 20000 in
theorem gX4_settled_X4_counted : GoodIn wsX4_settled (wsV RX4 98 RX4 yX4_counted wsX4_counted) := goodIn_app (goodIn_of _ (by decide +kernel)) ggX4_settled_X4_counted
set_option maxRecDepth 20000 in
theorem ggX4_settled_X0_copyFrom : GoodIn wsX4_settled wsX0_copyFrom := goodIn_r _ [27, 28, 29, 30, 31, 32, 33, 34, 35, 47, 48, 49, 50] (by decide +kernel) (by decide +kernel)
set_option maxRecDepth 20000 in
theorem gX4_settled_X0_copyFrom : GoodIn wsX4_settled (wsV RX4 191 RX0 yX0_copyFrom wsX0_copyFrom) := goodIn_app (goodIn_of _ (by decide +kernel)) ggX4_settled_X0_copyFrom
theorem dX4_settled_0 : decode cX4_settled 0 = .ok (.iload_n 1, 1) := by decide +kernel
theorem dX4_settled_1 : decode cX4_settled 1 = .ok (.invokestatic 188, 3) := by decide +kernel
theorem dX4_settled_4 : decode cX4_settled 4 = .ok (.ifCond .eq 9, 3) := by decide +kernel
theorem dX4_settled_7 : decode cX4_settled 7 = .ok (.aload_n 0, 1) := by decide +kernel
theorem dX4_settled_8 : decode cX4_settled 8 = .ok (.iload_n 1, 1) := by decide +kernel
theorem dX4_settled_9 : decode cX4_settled 9 = .ok (.invokevirtual 98, 3) := by decide +kernel
theorem dX4_settled_12 : decode cX4_settled 12 = .ok (.ireturn, 1) := by decide +kernel
theorem dX4_settled_13 : decode cX4_settled 13 = .ok (.aload_n 0, 1) := by decide +kernel
theorem dX4_settled_14 : decode cX4_settled 14 = .ok (.getfield 19, 3) := by decide +kernel
theorem dX4_settled_17 : decode cX4_settled 17 = .ok (.aload_n 0, 1) := by decide +kernel
theorem dX4_settled_18 : decode cX4_settled 18 = .ok (.getfield 23, 3) := by decide +kernel
theorem dX4_settled_21 : decode cX4_settled 21 = .ok (.aaload, 1) := by decide +kernel
theorem dX4_settled_22 : decode cX4_settled 22 = .ok (.aload_n 0, 1) := by decide +kernel
theorem dX4_settled_23 : decode cX4_settled 23 = .ok (.getfield 16, 3) := by decide +kernel
theorem dX4_settled_26 : decode cX4_settled 26 = .ok (.invokevirtual 191, 3) := by decide +kernel
theorem dX4_settled_29 : decode cX4_settled 29 = .ok (.aload_n 0, 1) := by decide +kernel
theorem dX4_settled_30 : decode cX4_settled 30 = .ok (.aload_n 0, 1) := by decide +kernel
theorem dX4_settled_31 : decode cX4_settled 31 = .ok (.getfield 23, 3) := by decide +kernel
theorem dX4_settled_34 : decode cX4_settled 34 = .ok (.iconst 1, 1) := by decide +kernel
theorem dX4_settled_35 : decode cX4_settled 35 = .ok (.iadd, 1) := by decide +kernel
theorem dX4_settled_36 : decode cX4_settled 36 = .ok (.iconst 5, 1) := by decide +kernel
theorem dX4_settled_37 : decode cX4_settled 37 = .ok (.irem, 1) := by decide +kernel
theorem dX4_settled_38 : decode cX4_settled 38 = .ok (.putfield 23, 3) := by decide +kernel
theorem dX4_settled_41 : decode cX4_settled 41 = .ok (.aload_n 0, 1) := by decide +kernel
theorem dX4_settled_42 : decode cX4_settled 42 = .ok (.aload_n 0, 1) := by decide +kernel
theorem dX4_settled_43 : decode cX4_settled 43 = .ok (.getfield 27, 3) := by decide +kernel
theorem dX4_settled_46 : decode cX4_settled 46 = .ok (.iconst 1, 1) := by decide +kernel
theorem dX4_settled_47 : decode cX4_settled 47 = .ok (.iadd, 1) := by decide +kernel
theorem dX4_settled_48 : decode cX4_settled 48 = .ok (.iconst 5, 1) := by decide +kernel
theorem dX4_settled_49 : decode cX4_settled 49 = .ok (.invokestatic 223, 3) := by decide +kernel
theorem dX4_settled_52 : decode cX4_settled 52 = .ok (.putfield 27, 3) := by decide +kernel
theorem dX4_settled_55 : decode cX4_settled 55 = .ok (.iload_n 1, 1) := by decide +kernel
theorem dX4_settled_56 : decode cX4_settled 56 = .ok (.ireturn, 1) := by decide +kernel
set_option maxRecDepth 20000 in
theorem ggX4_obeyed_X3_number : GoodIn wsX4_obeyed wsX3_number := goodIn_r _ [8, 9, 83, 84, 85, 86, 87, 88] (by decide +kernel) (by decide +kernel)
set_option maxRecDepth 20000 in
theorem gX4_obeyed_X3_number : GoodIn wsX4_obeyed (wsV RX4 228 RX3 yX3_number wsX3_number) := goodIn_app (goodIn_of _ (by decide +kernel)) ggX4_obeyed_X3_number
set_option maxRecDepth 20000 in
theorem ggX4_obeyed_X0_addSpan : GoodIn wsX4_obeyed wsX0_addSpan := goodIn_r _ [14, 15, 16, 17, 18, 19, 20, 21, 22, 23, 13, 24, 25, 89, 90, 91, 92] (by decide +kernel) (by decide +kernel)
set_option maxRecDepth 20000 in
theorem gX4_obeyed_X0_addSpan : GoodIn wsX4_obeyed (wsV RX4 63 RX0 yX0_addSpan wsX0_addSpan) := goodIn_app (goodIn_of _ (by decide +kernel)) ggX4_obeyed_X0_addSpan
set_option maxRecDepth 20000 in
theorem ggX4_obeyed_X0_changeSetting : GoodIn wsX4_obeyed wsX0_changeSetting := goodIn_r _ [29, 15, 30, 18, 19, 20, 89, 90, 91, 92] (by decide +kernel) (by decide +kernel)
set_option maxRecDepth 20000 in
theorem gX4_obeyed_X0_changeSetting : GoodIn wsX4_obeyed (wsV RX4 75 RX0 yX0_changeSetting wsX0_changeSetting) := goodIn_app (goodIn_of _ (by decide +kernel)) ggX4_obeyed_X0_changeSetting
set_option maxRecDepth 20000 in
theorem ggX4_obeyed_X0_turnPump : GoodIn wsX4_obeyed wsX0_turnPump := goodIn_r _ [34, 15, 35, 36, 37, 38, 13, 39, 16, 18, 19, 20, 40, 41, 42, 43, 44, 45, 46, 89, 90, 91, 92] (by decide +kernel) (by decide +kernel)
set_option maxRecDepth 20000 in
theorem gX4_obeyed_X0_turnPump : GoodIn wsX4_obeyed (wsV RX4 79 RX0 yX0_turnPump wsX0_turnPump) := goodIn_app (goodIn_of _ (by decide +kernel)) ggX4_obeyed_X0_turnPump
set_option maxRecDepth 20000 in
theorem ggX4_obeyed_X0_burstSpan : GoodIn wsX4_obeyed wsX0_burstSpan := goodIn_r _ [50, 15, 51, 52, 53, 13, 54, 16, 18, 19, 20, 55, 56, 57, 58, 25, 21, 22, 23, 24, 89, 90, 91, 92] (by decide +kernel) (by decide +kernel)
set_option maxRecDepth 20000 in
theorem gX4_obeyed_X0_burstSpan : GoodIn wsX4_obeyed (wsV RX4 82 RX0 yX0_burstSpan wsX0_burstSpan) := goodIn_app (goodIn_of _ (by decide +kernel)) ggX4_obeyed_X0_burstSpan
set_option maxRecDepth 20000 in
theorem ggX4_obeyed_X0_mendSpan : GoodIn wsX4_obeyed wsX0_mendSpan := goodIn_r _ [62, 15, 30, 63, 51, 52, 53, 13, 54, 16, 18, 19, 20, 55, 56, 57, 58, 25, 64, 65, 66, 67, 21, 22, 23, 24, 89, 90, 91, 92] (by decide +kernel) (by decide +kernel)
set_option maxRecDepth 20000 in
theorem gX4_obeyed_X0_mendSpan : GoodIn wsX4_obeyed (wsV RX4 85 RX0 yX0_mendSpan wsX0_mendSpan) := goodIn_app (goodIn_of _ (by decide +kernel)) ggX4_obeyed_X0_mendSpan
set_option maxRecDepth 20000 in
theorem ggX4_obeyed_X0_cutLast : GoodIn wsX4_obeyed wsX0_cutLast := goodIn_r _ [71, 16, 63, 35, 89, 90, 91, 92] (by decide +kernel) (by decide +kernel)
set_option maxRecDepth 20000 in
theorem gX4_obeyed_X0_cutLast : GoodIn wsX4_obeyed (wsV RX4 71 RX0 yX0_cutLast wsX0_cutLast) := goodIn_app (goodIn_of _ (by decide +kernel)) ggX4_obeyed_X0_cutLast
theorem dX4_obeyed_0 : decode cX4_obeyed 0 = .ok (.aload_n 0, 1) := by decide +kernel
theorem dX4_obeyed_1 : decode cX4_obeyed 1 = .ok (.getfield 42, 3) := by decide +kernel
theorem dX4_obeyed_4 : decode cX4_obeyed 4 = .ok (.iload_n 1, 1) := by decide +kernel
theorem dX4_obeyed_5 : decode cX4_obeyed 5 = .ok (.iconst 0, 1) := by decide +kernel
theorem dX4_obeyed_6 : decode cX4_obeyed 6 = .ok (.invokevirtual 228, 3) := by decide +kernel
theorem dX4_obeyed_9 : decode cX4_obeyed 9 = .ok (.istore_n 2, 1) := by decide +kernel
theorem dX4_obeyed_10 : decode cX4_obeyed 10 = .ok (.aload_n 0, 1) := by decide +kernel
theorem dX4_obeyed_11 : decode cX4_obeyed 11 = .ok (.getfield 42, 3) := by decide +kernel
theorem dX4_obeyed_14 : decode cX4_obeyed 14 = .ok (.iload_n 1, 1) := by decide +kernel
theorem dX4_obeyed_15 : decode cX4_obeyed 15 = .ok (.iconst 1, 1) := by decide +kernel
theorem dX4_obeyed_16 : decode cX4_obeyed 16 = .ok (.invokevirtual 228, 3) := by decide +kernel
theorem dX4_obeyed_19 : decode cX4_obeyed 19 = .ok (.istore_n 3, 1) := by decide +kernel
theorem dX4_obeyed_20 : decode cX4_obeyed 20 = .ok (.aload_n 0, 1) := by decide +kernel
theorem dX4_obeyed_21 : decode cX4_obeyed 21 = .ok (.getfield 42, 3) := by decide +kernel
theorem dX4_obeyed_24 : decode cX4_obeyed 24 = .ok (.getfield 231, 3) := by decide +kernel
theorem dX4_obeyed_27 : decode cX4_obeyed 27 = .ok (.iload_n 1, 1) := by decide +kernel
theorem dX4_obeyed_28 : decode cX4_obeyed 28 = .ok (.baload, 1) := by decide +kernel
theorem dX4_obeyed_29 : decode cX4_obeyed 29 = .ok (.lookupswitch 116 #[(104, 51), (107, 79), (109, 107), (112, 89), (120, 98)], 51) := by decide +kernel
theorem dX4_obeyed_80 : decode cX4_obeyed 80 = .ok (.aload_n 0, 1) := by decide +kernel
theorem dX4_obeyed_81 : decode cX4_obeyed 81 = .ok (.getfield 12, 3) := by decide +kernel
theorem dX4_obeyed_84 : decode cX4_obeyed 84 = .ok (.iload_n 2, 1) := by decide +kernel
theorem dX4_obeyed_85 : decode cX4_obeyed 85 = .ok (.iload_n 3, 1) := by decide +kernel
theorem dX4_obeyed_86 : decode cX4_obeyed 86 = .ok (.aload_n 0, 1) := by decide +kernel
theorem dX4_obeyed_87 : decode cX4_obeyed 87 = .ok (.getfield 42, 3) := by decide +kernel
theorem dX4_obeyed_90 : decode cX4_obeyed 90 = .ok (.iload_n 1, 1) := by decide +kernel
theorem dX4_obeyed_91 : decode cX4_obeyed 91 = .ok (.iconst 2, 1) := by decide +kernel
theorem dX4_obeyed_92 : decode cX4_obeyed 92 = .ok (.invokevirtual 228, 3) := by decide +kernel
theorem dX4_obeyed_95 : decode cX4_obeyed 95 = .ok (.aload_n 0, 1) := by decide +kernel
theorem dX4_obeyed_96 : decode cX4_obeyed 96 = .ok (.getfield 42, 3) := by decide +kernel
theorem dX4_obeyed_99 : decode cX4_obeyed 99 = .ok (.iload_n 1, 1) := by decide +kernel
theorem dX4_obeyed_100 : decode cX4_obeyed 100 = .ok (.iconst 3, 1) := by decide +kernel
theorem dX4_obeyed_101 : decode cX4_obeyed 101 = .ok (.invokevirtual 228, 3) := by decide +kernel
theorem dX4_obeyed_104 : decode cX4_obeyed 104 = .ok (.invokevirtual 63, 3) := by decide +kernel
theorem dX4_obeyed_107 : decode cX4_obeyed 107 = .ok (.ireturn, 1) := by decide +kernel
theorem dX4_obeyed_108 : decode cX4_obeyed 108 = .ok (.aload_n 0, 1) := by decide +kernel
theorem dX4_obeyed_109 : decode cX4_obeyed 109 = .ok (.getfield 12, 3) := by decide +kernel
theorem dX4_obeyed_112 : decode cX4_obeyed 112 = .ok (.iload_n 2, 1) := by decide +kernel
theorem dX4_obeyed_113 : decode cX4_obeyed 113 = .ok (.iload_n 3, 1) := by decide +kernel
theorem dX4_obeyed_114 : decode cX4_obeyed 114 = .ok (.invokevirtual 75, 3) := by decide +kernel
theorem dX4_obeyed_117 : decode cX4_obeyed 117 = .ok (.ireturn, 1) := by decide +kernel
theorem dX4_obeyed_118 : decode cX4_obeyed 118 = .ok (.aload_n 0, 1) := by decide +kernel
theorem dX4_obeyed_119 : decode cX4_obeyed 119 = .ok (.getfield 12, 3) := by decide +kernel
theorem dX4_obeyed_122 : decode cX4_obeyed 122 = .ok (.iload_n 2, 1) := by decide +kernel
theorem dX4_obeyed_123 : decode cX4_obeyed 123 = .ok (.invokevirtual 79, 3) := by decide +kernel
theorem dX4_obeyed_126 : decode cX4_obeyed 126 = .ok (.ireturn, 1) := by decide +kernel
theorem dX4_obeyed_127 : decode cX4_obeyed 127 = .ok (.aload_n 0, 1) := by decide +kernel
theorem dX4_obeyed_128 : decode cX4_obeyed 128 = .ok (.getfield 12, 3) := by decide +kernel
theorem dX4_obeyed_131 : decode cX4_obeyed 131 = .ok (.iload_n 2, 1) := by decide +kernel
theorem dX4_obeyed_132 : decode cX4_obeyed 132 = .ok (.invokevirtual 82, 3) := by decide +kernel
theorem dX4_obeyed_135 : decode cX4_obeyed 135 = .ok (.ireturn, 1) := by decide +kernel
theorem dX4_obeyed_136 : decode cX4_obeyed 136 = .ok (.aload_n 0, 1) := by decide +kernel
theorem dX4_obeyed_137 : decode cX4_obeyed 137 = .ok (.getfield 12, 3) := by decide +kernel
theorem dX4_obeyed_140 : decode cX4_obeyed 140 = .ok (.iload_n 2, 1) := by decide +kernel
theorem dX4_obeyed_141 : decode cX4_obeyed 141 = .ok (.invokevirtual 85, 3) := by decide +kernel
theorem dX4_obeyed_144 : decode cX4_obeyed 144 = .ok (.ireturn, 1) := by decide +kernel
theorem dX4_obeyed_145 : decode cX4_obeyed 145 = .ok (.aload_n 0, 1) := by decide +kernel
theorem dX4_obeyed_146 : decode cX4_obeyed 146 = .ok (.getfield 12, 3) := by decide +kernel
theorem dX4_obeyed_149 : decode cX4_obeyed 149 = .ok (.invokevirtual 71, 3) := by decide +kernel
theorem dX4_obeyed_152 : decode cX4_obeyed 152 = .ok (.ireturn, 1) := by decide +kernel
theorem dX4_sizeOf_0 : decode cX4_sizeOf 0 = .ok (.iload_n 0, 1) := by decide +kernel
theorem dX4_sizeOf_1 : decode cX4_sizeOf 1 = .ok (.sipush 2048, 3) := by decide +kernel
theorem dX4_sizeOf_4 : decode cX4_sizeOf 4 = .ok (.idiv, 1) := by decide +kernel
theorem dX4_sizeOf_5 : decode cX4_sizeOf 5 = .ok (.ireturn, 1) := by decide +kernel
theorem dX4_bitsOf_0 : decode cX4_bitsOf 0 = .ok (.iload_n 0, 1) := by decide +kernel
theorem dX4_bitsOf_1 : decode cX4_bitsOf 1 = .ok (.sipush 2048, 3) := by decide +kernel
theorem dX4_bitsOf_4 : decode cX4_bitsOf 4 = .ok (.irem, 1) := by decide +kernel
theorem dX4_bitsOf_5 : decode cX4_bitsOf 5 = .ok (.ireturn, 1) := by decide +kernel
set_option maxRecDepth 20000 in
theorem ggX4_isTrip_X4_within : GoodIn wsX4_isTrip wsX4_within := goodIn_r _ [4] (by decide +kernel) (by decide +kernel)
set_option maxRecDepth 20000 in
theorem gX4_isTrip_X4_within : GoodIn wsX4_isTrip (va_wsS RX4 114 yX4_within wsX4_within) := goodIn_app (goodIn_of _ (by decide +kernel)) ggX4_isTrip_X4_within
theorem dX4_isTrip_0 : decode cX4_isTrip 0 = .ok (.iload_n 0, 1) := by decide +kernel
theorem dX4_isTrip_1 : decode cX4_isTrip 1 = .ok (.iconst 1, 1) := by decide +kernel
theorem dX4_isTrip_2 : decode cX4_isTrip 2 = .ok (.bipush 99, 2) := by decide +kernel
theorem dX4_isTrip_4 : decode cX4_isTrip 4 = .ok (.invokestatic 114, 3) := by decide +kernel
theorem dX4_isTrip_7 : decode cX4_isTrip 7 = .ok (.ifCond .eq 37, 3) := by decide +kernel
theorem dX4_isTrip_10 : decode cX4_isTrip 10 = .ok (.iload_n 1, 1) := by decide +kernel
theorem dX4_isTrip_11 : decode cX4_isTrip 11 = .ok (.iconst 1, 1) := by decide +kernel
theorem dX4_isTrip_12 : decode cX4_isTrip 12 = .ok (.bipush 99, 2) := by decide +kernel
theorem dX4_isTrip_14 : decode cX4_isTrip 14 = .ok (.invokestatic 114, 3) := by decide +kernel
theorem dX4_isTrip_17 : decode cX4_isTrip 17 = .ok (.ifCond .eq 27, 3) := by decide +kernel
theorem dX4_isTrip_20 : decode cX4_isTrip 20 = .ok (.iload_n 2, 1) := by decide +kernel
theorem dX4_isTrip_21 : decode cX4_isTrip 21 = .ok (.iconst 1, 1) := by decide +kernel
theorem dX4_isTrip_22 : decode cX4_isTrip 22 = .ok (.bipush 99, 2) := by decide +kernel
theorem dX4_isTrip_24 : decode cX4_isTrip 24 = .ok (.invokestatic 114, 3) := by decide +kernel
theorem dX4_isTrip_27 : decode cX4_isTrip 27 = .ok (.ifCond .eq 17, 3) := by decide +kernel
theorem dX4_isTrip_30 : decode cX4_isTrip 30 = .ok (.iload_n 3, 1) := by decide +kernel
theorem dX4_isTrip_31 : decode cX4_isTrip 31 = .ok (.iconst 1, 1) := by decide +kernel
theorem dX4_isTrip_32 : decode cX4_isTrip 32 = .ok (.bipush 99, 2) := by decide +kernel
theorem dX4_isTrip_34 : decode cX4_isTrip 34 = .ok (.invokestatic 114, 3) := by decide +kernel
theorem dX4_isTrip_37 : decode cX4_isTrip 37 = .ok (.ifCond .eq 7, 3) := by decide +kernel
theorem dX4_isTrip_40 : decode cX4_isTrip 40 = .ok (.iconst 1, 1) := by decide +kernel
theorem dX4_isTrip_41 : decode cX4_isTrip 41 = .ok (.goto 4, 3) := by decide +kernel
theorem dX4_isTrip_44 : decode cX4_isTrip 44 = .ok (.iconst 0, 1) := by decide +kernel
theorem dX4_isTrip_45 : decode cX4_isTrip 45 = .ok (.ireturn, 1) := by decide +kernel
theorem dX4_broughtInHour_0 : decode cX4_broughtInHour 0 = .ok (.bipush 60, 2) := by decide +kernel
theorem dX4_broughtInHour_2 : decode cX4_broughtInHour 2 = .ok (.iload_n 0, 1) := by decide +kernel
theorem dX4_broughtInHour_3 : decode cX4_broughtInHour 3 = .ok (.imul, 1) := by decide +kernel
theorem dX4_broughtInHour_4 : decode cX4_broughtInHour 4 = .ok (.iload_n 1, 1) := by decide +kernel
theorem dX4_broughtInHour_5 : decode cX4_broughtInHour 5 = .ok (.imul, 1) := by decide +kernel
theorem dX4_broughtInHour_6 : decode cX4_broughtInHour 6 = .ok (.iload_n 2, 1) := by decide +kernel
theorem dX4_broughtInHour_7 : decode cX4_broughtInHour 7 = .ok (.iconst 2, 1) := by decide +kernel
theorem dX4_broughtInHour_8 : decode cX4_broughtInHour 8 = .ok (.iload_n 3, 1) := by decide +kernel
theorem dX4_broughtInHour_9 : decode cX4_broughtInHour 9 = .ok (.imul, 1) := by decide +kernel
theorem dX4_broughtInHour_10 : decode cX4_broughtInHour 10 = .ok (.iadd, 1) := by decide +kernel
theorem dX4_broughtInHour_11 : decode cX4_broughtInHour 11 = .ok (.iload 4, 2) := by decide +kernel
theorem dX4_broughtInHour_13 : decode cX4_broughtInHour 13 = .ok (.iadd, 1) := by decide +kernel
theorem dX4_broughtInHour_14 : decode cX4_broughtInHour 14 = .ok (.idiv, 1) := by decide +kernel
theorem dX4_broughtInHour_15 : decode cX4_broughtInHour 15 = .ok (.bipush 60, 2) := by decide +kernel
theorem dX4_broughtInHour_17 : decode cX4_broughtInHour 17 = .ok (.iload_n 1, 1) := by decide +kernel
theorem dX4_broughtInHour_18 : decode cX4_broughtInHour 18 = .ok (.imul, 1) := by decide +kernel
theorem dX4_broughtInHour_19 : decode cX4_broughtInHour 19 = .ok (.iload_n 2, 1) := by decide +kernel
theorem dX4_broughtInHour_20 : decode cX4_broughtInHour 20 = .ok (.idiv, 1) := by decide +kernel
theorem dX4_broughtInHour_21 : decode cX4_broughtInHour 21 = .ok (.invokestatic 223, 3) := by decide +kernel
theorem dX4_broughtInHour_24 : decode cX4_broughtInHour 24 = .ok (.ireturn, 1) := by decide +kernel
theorem dX5_init_0 : decode cX5_init 0 = .ok (.aload_n 0, 1) := by decide +kernel
theorem dX5_init_1 : decode cX5_init 1 = .ok (.invokespecial 1, 3) := by decide +kernel
theorem dX5_init_4 : decode cX5_init 4 = .ok (.aload_n 0, 1) := by decide +kernel
theorem dX5_init_5 : decode cX5_init 5 = .ok (.bipush 58, 2) := by decide +kernel
theorem dX5_init_7 : decode cX5_init 7 = .ok (.newarray .int, 2) := by decide +kernel
theorem dX5_init_9 : decode cX5_init 9 = .ok (.putfield 7, 3) := by decide +kernel
theorem dX5_init_12 : decode cX5_init 12 = .ok (.aload_n 0, 1) := by decide +kernel
theorem dX5_init_13 : decode cX5_init 13 = .ok (.bipush 58, 2) := by decide +kernel
theorem dX5_init_15 : decode cX5_init 15 = .ok (.newarray .int, 2) := by decide +kernel
theorem dX5_init_17 : decode cX5_init 17 = .ok (.putfield 13, 3) := by decide +kernel
theorem dX5_init_20 : decode cX5_init 20 = .ok (.aload_n 0, 1) := by decide +kernel
theorem dX5_init_21 : decode cX5_init 21 = .ok (.sipush 290, 3) := by decide +kernel
theorem dX5_init_24 : decode cX5_init 24 = .ok (.newarray .int, 2) := by decide +kernel
theorem dX5_init_26 : decode cX5_init 26 = .ok (.putfield 16, 3) := by decide +kernel
theorem dX5_init_29 : decode cX5_init 29 = .ok (.aload_n 0, 1) := by decide +kernel
theorem dX5_init_30 : decode cX5_init 30 = .ok (.iconst 3, 1) := by decide +kernel
theorem dX5_init_31 : decode cX5_init 31 = .ok (.newarray .int, 2) := by decide +kernel
theorem dX5_init_33 : decode cX5_init 33 = .ok (.putfield 19, 3) := by decide +kernel
theorem dX5_init_36 : decode cX5_init 36 = .ok (.aload_n 0, 1) := by decide +kernel
theorem dX5_init_37 : decode cX5_init 37 = .ok (.bipush 120, 2) := by decide +kernel
theorem dX5_init_39 : decode cX5_init 39 = .ok (.newarray .int, 2) := by decide +kernel
theorem dX5_init_41 : decode cX5_init 41 = .ok (.putfield 22, 3) := by decide +kernel
theorem dX5_init_44 : decode cX5_init 44 = .ok (.aload_n 0, 1) := by decide +kernel
theorem dX5_init_45 : decode cX5_init 45 = .ok (.bipush 11, 2) := by decide +kernel
theorem dX5_init_47 : decode cX5_init 47 = .ok (.newarray .int, 2) := by decide +kernel
theorem dX5_init_49 : decode cX5_init 49 = .ok (.putfield 25, 3) := by decide +kernel
theorem dX5_init_52 : decode cX5_init 52 = .ok (.aload_n 0, 1) := by decide +kernel
theorem dX5_init_53 : decode cX5_init 53 = .ok (.bipush 11, 2) := by decide +kernel
theorem dX5_init_55 : decode cX5_init 55 = .ok (.newarray .int, 2) := by decide +kernel
theorem dX5_init_57 : decode cX5_init 57 = .ok (.putfield 28, 3) := by decide +kernel
theorem dX5_init_60 : decode cX5_init 60 = .ok (.aload_n 0, 1) := by decide +kernel
theorem dX5_init_61 : decode cX5_init 61 = .ok (.iconst 4, 1) := by decide +kernel
theorem dX5_init_62 : decode cX5_init 62 = .ok (.newarray .int, 2) := by decide +kernel
theorem dX5_init_64 : decode cX5_init 64 = .ok (.putfield 31, 3) := by decide +kernel
theorem dX5_init_67 : decode cX5_init 67 = .ok (.aload_n 0, 1) := by decide +kernel
theorem dX5_init_68 : decode cX5_init 68 = .ok (.bipush 58, 2) := by decide +kernel
theorem dX5_init_70 : decode cX5_init 70 = .ok (.newarray .int, 2) := by decide +kernel
theorem dX5_init_72 : decode cX5_init 72 = .ok (.putfield 34, 3) := by decide +kernel
theorem dX5_init_75 : decode cX5_init 75 = .ok (.aload_n 0, 1) := by decide +kernel
theorem dX5_init_76 : decode cX5_init 76 = .ok (.getfield 7, 3) := by decide +kernel
theorem dX5_init_79 : decode cX5_init 79 = .ok (.iconst 2, 1) := by decide +kernel
theorem dX5_init_80 : decode cX5_init 80 = .ok (.bipush 10, 2) := by decide +kernel
theorem dX5_init_82 : decode cX5_init 82 = .ok (.iastore, 1) := by decide +kernel
theorem dX5_init_83 : decode cX5_init 83 = .ok (.aload_n 0, 1) := by decide +kernel
theorem dX5_init_84 : decode cX5_init 84 = .ok (.getfield 7, 3) := by decide +kernel
theorem dX5_init_87 : decode cX5_init 87 = .ok (.iconst 3, 1) := by decide +kernel
theorem dX5_init_88 : decode cX5_init 88 = .ok (.bipush 20, 2) := by decide +kernel
theorem dX5_init_90 : decode cX5_init 90 = .ok (.iastore, 1) := by decide +kernel
theorem dX5_init_91 : decode cX5_init 91 = .ok (.aload_n 0, 1) := by decide +kernel
theorem dX5_init_92 : decode cX5_init 92 = .ok (.getfield 7, 3) := by decide +kernel
theorem dX5_init_95 : decode cX5_init 95 = .ok (.iconst 4, 1) := by decide +kernel
theorem dX5_init_96 : decode cX5_init 96 = .ok (.bipush 30, 2) := by decide +kernel
theorem dX5_init_98 : decode cX5_init 98 = .ok (.iastore, 1) := by decide +kernel
theorem dX5_init_99 : decode cX5_init 99 = .ok (.aload_n 0, 1) := by decide +kernel
theorem dX5_init_100 : decode cX5_init 100 = .ok (.getfield 7, 3) := by decide +kernel
theorem dX5_init_103 : decode cX5_init 103 = .ok (.iconst 5, 1) := by decide +kernel
theorem dX5_init_104 : decode cX5_init 104 = .ok (.bipush 100, 2) := by decide +kernel
theorem dX5_init_106 : decode cX5_init 106 = .ok (.iastore, 1) := by decide +kernel
theorem dX5_init_107 : decode cX5_init 107 = .ok (.aload_n 0, 1) := by decide +kernel
theorem dX5_init_108 : decode cX5_init 108 = .ok (.getfield 7, 3) := by decide +kernel
theorem dX5_init_111 : decode cX5_init 111 = .ok (.bipush 6, 2) := by decide +kernel
theorem dX5_init_113 : decode cX5_init 113 = .ok (.iconst 5, 1) := by decide +kernel
theorem dX5_init_114 : decode cX5_init 114 = .ok (.iastore, 1) := by decide +kernel
theorem dX5_init_115 : decode cX5_init 115 = .ok (.return_, 1) := by decide +kernel
theorem dX5_in_0 : decode cX5_in 0 = .ok (.iload_n 0, 1) := by decide +kernel
theorem dX5_in_1 : decode cX5_in 1 = .ok (.iload_n 1, 1) := by decide +kernel
theorem dX5_in_2 : decode cX5_in 2 = .ok (.if_icmp .lt 12, 3) := by decide +kernel
theorem dX5_in_5 : decode cX5_in 5 = .ok (.iload_n 0, 1) := by decide +kernel
theorem dX5_in_6 : decode cX5_in 6 = .ok (.iload_n 2, 1) := by decide +kernel
theorem dX5_in_7 : decode cX5_in 7 = .ok (.if_icmp .gt 7, 3) := by decide +kernel
theorem dX5_in_10 : decode cX5_in 10 = .ok (.iconst 1, 1) := by decide +kernel
theorem dX5_in_11 : decode cX5_in 11 = .ok (.goto 4, 3) := by decide +kernel
theorem dX5_in_14 : decode cX5_in 14 = .ok (.iconst 0, 1) := by decide +kernel
theorem dX5_in_15 : decode cX5_in 15 = .ok (.ireturn, 1) := by decide +kernel
theorem dX5_has_0 : decode cX5_has 0 = .ok (.iload_n 0, 1) := by decide +kernel
theorem dX5_has_1 : decode cX5_has 1 = .ok (.iload_n 1, 1) := by decide +kernel
theorem dX5_has_2 : decode cX5_has 2 = .ok (.ishr, 1) := by decide +kernel
theorem dX5_has_3 : decode cX5_has 3 = .ok (.iconst 1, 1) := by decide +kernel
theorem dX5_has_4 : decode cX5_has 4 = .ok (.iand, 1) := by decide +kernel
theorem dX5_has_5 : decode cX5_has 5 = .ok (.iconst 1, 1) := by decide +kernel
theorem dX5_has_6 : decode cX5_has 6 = .ok (.if_icmp .ne 7, 3) := by decide +kernel
theorem dX5_has_9 : decode cX5_has 9 = .ok (.iconst 1, 1) := by decide +kernel
theorem dX5_has_10 : decode cX5_has 10 = .ok (.goto 4, 3) := by decide +kernel
theorem dX5_has_13 : decode cX5_has 13 = .ok (.iconst 0, 1) := by decide +kernel
theorem dX5_has_14 : decode cX5_has 14 = .ok (.ireturn, 1) := by decide +kernel
theorem dX5_ones_0 : decode cX5_ones 0 = .ok (.iconst 0, 1) := by decide +kernel
theorem dX5_ones_1 : decode cX5_ones 1 = .ok (.istore_n 1, 1) := by decide +kernel
theorem dX5_ones_2 : decode cX5_ones 2 = .ok (.iconst 0, 1) := by decide +kernel
theorem dX5_ones_3 : decode cX5_ones 3 = .ok (.istore_n 2, 1) := by decide +kernel
theorem dX5_ones_4 : decode cX5_ones 4 = .ok (.iload_n 2, 1) := by decide +kernel
theorem dX5_ones_5 : decode cX5_ones 5 = .ok (.bipush 10, 2) := by decide +kernel
theorem dX5_ones_7 : decode cX5_ones 7 = .ok (.if_icmp .gt 17, 3) := by decide +kernel
theorem dX5_ones_10 : decode cX5_ones 10 = .ok (.iload_n 1, 1) := by decide +kernel
theorem dX5_ones_11 : decode cX5_ones 11 = .ok (.iload_n 0, 1) := by decide +kernel
theorem dX5_ones_12 : decode cX5_ones 12 = .ok (.iload_n 2, 1) := by decide +kernel
theorem dX5_ones_13 : decode cX5_ones 13 = .ok (.ishr, 1) := by decide +kernel
theorem dX5_ones_14 : decode cX5_ones 14 = .ok (.iconst 1, 1) := by decide +kernel
theorem dX5_ones_15 : decode cX5_ones 15 = .ok (.iand, 1) := by decide +kernel
theorem dX5_ones_16 : decode cX5_ones 16 = .ok (.iadd, 1) := by decide +kernel
theorem dX5_ones_17 : decode cX5_ones 17 = .ok (.istore_n 1, 1) := by decide +kernel
theorem dX5_ones_18 : decode cX5_ones 18 = .ok (.iinc 2 1, 3) := by decide +kernel
theorem dX5_ones_21 : decode cX5_ones 21 = .ok (.goto (-17), 3) := by decide +kernel
theorem dX5_ones_24 : decode cX5_ones 24 = .ok (.iload_n 1, 1) := by decide +kernel
theorem dX5_ones_25 : decode cX5_ones 25 = .ok (.ireturn, 1) := by decide +kernel
theorem dX5_bring_0 : decode cX5_bring 0 = .ok (.iconst 0, 1) := by decide +kernel
theorem dX5_bring_1 : decode cX5_bring 1 = .ok (.istore 4, 2) := by decide +kernel
theorem dX5_bring_3 : decode cX5_bring 3 = .ok (.iload 4, 2) := by decide +kernel
theorem dX5_bring_5 : decode cX5_bring 5 = .ok (.bipush 58, 2) := by decide +kernel
theorem dX5_bring_7 : decode cX5_bring 7 = .ok (.if_icmp .ge 21, 3) := by decide +kernel
theorem dX5_bring_10 : decode cX5_bring 10 = .ok (.aload_n 2, 1) := by decide +kernel
theorem dX5_bring_11 : decode cX5_bring 11 = .ok (.iload_n 3, 1) := by decide +kernel
theorem dX5_bring_12 : decode cX5_bring 12 = .ok (.iload 4, 2) := by decide +kernel
theorem dX5_bring_14 : decode cX5_bring 14 = .ok (.iadd, 1) := by decide +kernel
theorem dX5_bring_15 : decode cX5_bring 15 = .ok (.aload_n 0, 1) := by decide +kernel
theorem dX5_bring_16 : decode cX5_bring 16 = .ok (.iload_n 1, 1) := by decide +kernel
theorem dX5_bring_17 : decode cX5_bring 17 = .ok (.iload 4, 2) := by decide +kernel
theorem dX5_bring_19 : decode cX5_bring 19 = .ok (.iadd, 1) := by decide +kernel
theorem dX5_bring_20 : decode cX5_bring 20 = .ok (.iaload, 1) := by decide +kernel
theorem dX5_bring_21 : decode cX5_bring 21 = .ok (.iastore, 1) := by decide +kernel
theorem dX5_bring_22 : decode cX5_bring 22 = .ok (.iinc 4 1, 3) := by decide +kernel
theorem dX5_bring_25 : decode cX5_bring 25 = .ok (.goto (-22), 3) := by decide +kernel
theorem dX5_bring_28 : decode cX5_bring 28 = .ok (.return_, 1) := by decide +kernel
theorem dX5_refuse_0 : decode cX5_refuse 0 = .ok (.aload_n 0, 1) := by decide +kernel
theorem dX5_refuse_1 : decode cX5_refuse 1 = .ok (.getfield 19, 3) := by decide +kernel
theorem dX5_refuse_4 : decode cX5_refuse 4 = .ok (.ldc 37, 2) := by decide +kernel
theorem dX5_refuse_6 : decode cX5_refuse 6 = .ok (.iload_n 1, 1) := by decide +kernel
theorem dX5_refuse_7 : decode cX5_refuse 7 = .ok (.isub, 1) := by decide +kernel
theorem dX5_refuse_8 : decode cX5_refuse 8 = .ok (.dup2, 1) := by decide +kernel
theorem dX5_refuse_9 : decode cX5_refuse 9 = .ok (.iaload, 1) := by decide +kernel
theorem dX5_refuse_10 : decode cX5_refuse 10 = .ok (.iconst 1, 1) := by decide +kernel
theorem dX5_refuse_11 : decode cX5_refuse 11 = .ok (.iadd, 1) := by decide +kernel
theorem dX5_refuse_12 : decode cX5_refuse 12 = .ok (.iastore, 1) := by decide +kernel
theorem dX5_refuse_13 : decode cX5_refuse 13 = .ok (.iload_n 1, 1) := by decide +kernel
theorem dX5_refuse_14 : decode cX5_refuse 14 = .ok (.ireturn, 1) := by decide +kernel
set_option maxRecDepth 20000 in
theorem ggX5_note_X5_bring : GoodIn wsX5_note wsX5_bring := goodIn_r _ [7] (by decide +kernel) (by decide +kernel)
set_option maxRecDepth 20000 in
theorem gX5_note_X5_bring : GoodIn wsX5_note (va_wsS RX5 42 yX5_bring wsX5_bring) := goodIn_app (goodIn_of _ (by decide +kernel)) ggX5_note_X5_bring
theorem dX5_note_0 : decode cX5_note 0 = .ok (.aload_n 0, 1) := by decide +kernel
theorem dX5_note_1 : decode cX5_note 1 = .ok (.getfield 38, 3) := by decide +kernel
theorem dX5_note_4 : decode cX5_note 4 = .ok (.iconst 5, 1) := by decide +kernel
theorem dX5_note_5 : decode cX5_note 5 = .ok (.if_icmp .ne 43, 3) := by decide +kernel
theorem dX5_note_8 : decode cX5_note 8 = .ok (.iconst 0, 1) := by decide +kernel
theorem dX5_note_9 : decode cX5_note 9 = .ok (.istore_n 1, 1) := by decide +kernel
theorem dX5_note_10 : decode cX5_note 10 = .ok (.iload_n 1, 1) := by decide +kernel
theorem dX5_note_11 : decode cX5_note 11 = .ok (.sipush 232, 3) := by decide +kernel
theorem dX5_note_14 : decode cX5_note 14 = .ok (.if_icmp .ge 24, 3) := by decide +kernel
theorem dX5_note_17 : decode cX5_note 17 = .ok (.aload_n 0, 1) := by decide +kernel
theorem dX5_note_18 : decode cX5_note 18 = .ok (.getfield 16, 3) := by decide +kernel
theorem dX5_note_21 : decode cX5_note 21 = .ok (.iload_n 1, 1) := by decide +kernel
theorem dX5_note_22 : decode cX5_note 22 = .ok (.aload_n 0, 1) := by decide +kernel
theorem dX5_note_23 : decode cX5_note 23 = .ok (.getfield 16, 3) := by decide +kernel
theorem dX5_note_26 : decode cX5_note 26 = .ok (.iload_n 1, 1) := by decide +kernel
theorem dX5_note_27 : decode cX5_note 27 = .ok (.bipush 58, 2) := by decide +kernel
theorem dX5_note_29 : decode cX5_note 29 = .ok (.iadd, 1) := by decide +kernel
theorem dX5_note_30 : decode cX5_note 30 = .ok (.iaload, 1) := by decide +kernel
theorem dX5_note_31 : decode cX5_note 31 = .ok (.iastore, 1) := by decide +kernel
theorem dX5_note_32 : decode cX5_note 32 = .ok (.iinc 1 1, 3) := by decide +kernel
theorem dX5_note_35 : decode cX5_note 35 = .ok (.goto (-25), 3) := by decide +kernel
theorem dX5_note_38 : decode cX5_note 38 = .ok (.aload_n 0, 1) := by decide +kernel
theorem dX5_note_39 : decode cX5_note 39 = .ok (.dup, 1) := by decide +kernel
theorem dX5_note_40 : decode cX5_note 40 = .ok (.getfield 38, 3) := by decide +kernel
theorem dX5_note_43 : decode cX5_note 43 = .ok (.iconst 1, 1) := by decide +kernel
theorem dX5_note_44 : decode cX5_note 44 = .ok (.isub, 1) := by decide +kernel
theorem dX5_note_45 : decode cX5_note 45 = .ok (.putfield 38, 3) := by decide +kernel
theorem dX5_note_48 : decode cX5_note 48 = .ok (.aload_n 0, 1) := by decide +kernel
theorem dX5_note_49 : decode cX5_note 49 = .ok (.getfield 7, 3) := by decide +kernel
theorem dX5_note_52 : decode cX5_note 52 = .ok (.iconst 0, 1) := by decide +kernel
theorem dX5_note_53 : decode cX5_note 53 = .ok (.aload_n 0, 1) := by decide +kernel
theorem dX5_note_54 : decode cX5_note 54 = .ok (.getfield 16, 3) := by decide +kernel
theorem dX5_note_57 : decode cX5_note 57 = .ok (.bipush 58, 2) := by decide +kernel
theorem dX5_note_59 : decode cX5_note 59 = .ok (.aload_n 0, 1) := by decide +kernel
theorem dX5_note_60 : decode cX5_note 60 = .ok (.getfield 38, 3) := by decide +kernel
theorem dX5_note_63 : decode cX5_note 63 = .ok (.imul, 1) := by decide +kernel
theorem dX5_note_64 : decode cX5_note 64 = .ok (.invokestatic 42, 3) := by decide +kernel
theorem dX5_note_67 : decode cX5_note 67 = .ok (.aload_n 0, 1) := by decide +kernel
theorem dX5_note_68 : decode cX5_note 68 = .ok (.dup, 1) := by decide +kernel
theorem dX5_note_69 : decode cX5_note 69 = .ok (.getfield 38, 3) := by decide +kernel
theorem dX5_note_72 : decode cX5_note 72 = .ok (.iconst 1, 1) := by decide +kernel
theorem dX5_note_73 : decode cX5_note 73 = .ok (.iadd, 1) := by decide +kernel
theorem dX5_note_74 : decode cX5_note 74 = .ok (.putfield 38, 3) := by decide +kernel
theorem dX5_note_77 : decode cX5_note 77 = .ok (.return_, 1) := by decide +kernel
set_option maxRecDepth 20000 in
theorem ggX5_isSpan_X5_in : GoodIn wsX5_isSpan wsX5_in := goodIn_r _ [5] (by decide +kernel) (by decide +kernel)
set_option maxRecDepth 20000 in
theorem gX5_isSpan_X5_in : GoodIn wsX5_isSpan (va_wsS RX5 46 yX5_in wsX5_in) := goodIn_app (goodIn_of _ (by decide +kernel)) ggX5_isSpan_X5_in
theorem dX5_isSpan_0 : decode cX5_isSpan 0 = .ok (.iload_n 1, 1) := by decide +kernel
theorem dX5_isSpan_1 : decode cX5_isSpan 1 = .ok (.iconst 0, 1) := by decide +kernel
theorem dX5_isSpan_2 : decode cX5_isSpan 2 = .ok (.aload_n 0, 1) := by decide +kernel
theorem dX5_isSpan_3 : decode cX5_isSpan 3 = .ok (.getfield 7, 3) := by decide +kernel
theorem dX5_isSpan_6 : decode cX5_isSpan 6 = .ok (.iconst 0, 1) := by decide +kernel
theorem dX5_isSpan_7 : decode cX5_isSpan 7 = .ok (.iaload, 1) := by decide +kernel
theorem dX5_isSpan_8 : decode cX5_isSpan 8 = .ok (.iconst 1, 1) := by decide +kernel
theorem dX5_isSpan_9 : decode cX5_isSpan 9 = .ok (.isub, 1) := by decide +kernel
theorem dX5_isSpan_10 : decode cX5_isSpan 10 = .ok (.invokestatic 46, 3) := by decide +kernel
theorem dX5_isSpan_13 : decode cX5_isSpan 13 = .ok (.ireturn, 1) := by decide +kernel
set_option maxRecDepth 20000 in
theorem ggX5_isNode_X5_in : GoodIn wsX5_isNode wsX5_in := goodIn_r _ [5] (by decide +kernel) (by decide +kernel)
set_option maxRecDepth 20000 in
theorem gX5_isNode_X5_in : GoodIn wsX5_isNode (va_wsS RX5 46 yX5_in wsX5_in) := goodIn_app (goodIn_of _ (by decide +kernel)) ggX5_isNode_X5_in
theorem dX5_isNode_0 : decode cX5_isNode 0 = .ok (.iload_n 1, 1) := by decide +kernel
theorem dX5_isNode_1 : decode cX5_isNode 1 = .ok (.iconst 0, 1) := by decide +kernel
theorem dX5_isNode_2 : decode cX5_isNode 2 = .ok (.aload_n 0, 1) := by decide +kernel
theorem dX5_isNode_3 : decode cX5_isNode 3 = .ok (.getfield 7, 3) := by decide +kernel
theorem dX5_isNode_6 : decode cX5_isNode 6 = .ok (.iconst 0, 1) := by decide +kernel
theorem dX5_isNode_7 : decode cX5_isNode 7 = .ok (.iaload, 1) := by decide +kernel
theorem dX5_isNode_8 : decode cX5_isNode 8 = .ok (.invokestatic 46, 3) := by decide +kernel
theorem dX5_isNode_11 : decode cX5_isNode 11 = .ok (.ireturn, 1) := by decide +kernel
theorem dX5_ofSpan_0 : decode cX5_ofSpan 0 = .ok (.aload_n 0, 1) := by decide +kernel
theorem dX5_ofSpan_1 : decode cX5_ofSpan 1 = .ok (.getfield 7, 3) := by decide +kernel
theorem dX5_ofSpan_4 : decode cX5_ofSpan 4 = .ok (.bipush 8, 2) := by decide +kernel
theorem dX5_ofSpan_6 : decode cX5_ofSpan 6 = .ok (.iconst 5, 1) := by decide +kernel
theorem dX5_ofSpan_7 : decode cX5_ofSpan 7 = .ok (.iload_n 1, 1) := by decide +kernel
theorem dX5_ofSpan_8 : decode cX5_ofSpan 8 = .ok (.imul, 1) := by decide +kernel
theorem dX5_ofSpan_9 : decode cX5_ofSpan 9 = .ok (.iadd, 1) := by decide +kernel
theorem dX5_ofSpan_10 : decode cX5_ofSpan 10 = .ok (.iload_n 2, 1) := by decide +kernel
theorem dX5_ofSpan_11 : decode cX5_ofSpan 11 = .ok (.iadd, 1) := by decide +kernel
theorem dX5_ofSpan_12 : decode cX5_ofSpan 12 = .ok (.iaload, 1) := by decide +kernel
theorem dX5_ofSpan_13 : decode cX5_ofSpan 13 = .ok (.ireturn, 1) := by decide +kernel
set_option maxRecDepth 20000 in
theorem ggX5_lengthsOf_X5_ofSpan : GoodIn wsX5_lengthsOf wsX5_ofSpan := goodIn_r _ [5, 6, 7, 8, 9, 10, 11, 12, 13, 14, 15, 16, 17, 18, 19, 20, 21, 22] (by decide +kernel) (by decide +kernel)
set_option maxRecDepth 20000 in
theorem gX5_lengthsOf_X5_ofSpan : GoodIn wsX5_lengthsOf (wsV RX5 50 RX5 yX5_ofSpan wsX5_ofSpan) := goodIn_app (goodIn_of _ (by decide +kernel)) ggX5_lengthsOf_X5_ofSpan
theorem dX5_lengthsOf_0 : decode cX5_lengthsOf 0 = .ok (.aload_n 0, 1) := by decide +kernel
theorem dX5_lengthsOf_1 : decode cX5_lengthsOf 1 = .ok (.iload_n 1, 1) := by decide +kernel
theorem dX5_lengthsOf_2 : decode cX5_lengthsOf 2 = .ok (.iconst 3, 1) := by decide +kernel
theorem dX5_lengthsOf_3 : decode cX5_lengthsOf 3 = .ok (.invokevirtual 50, 3) := by decide +kernel
theorem dX5_lengthsOf_6 : decode cX5_lengthsOf 6 = .ok (.iconst 1, 1) := by decide +kernel
theorem dX5_lengthsOf_7 : decode cX5_lengthsOf 7 = .ok (.if_icmp .ne 14, 3) := by decide +kernel
theorem dX5_lengthsOf_10 : decode cX5_lengthsOf 10 = .ok (.iconst 2, 1) := by decide +kernel
theorem dX5_lengthsOf_11 : decode cX5_lengthsOf 11 = .ok (.aload_n 0, 1) := by decide +kernel
theorem dX5_lengthsOf_12 : decode cX5_lengthsOf 12 = .ok (.iload_n 1, 1) := by decide +kernel
theorem dX5_lengthsOf_13 : decode cX5_lengthsOf 13 = .ok (.iconst 0, 1) := by decide +kernel
theorem dX5_lengthsOf_14 : decode cX5_lengthsOf 14 = .ok (.invokevirtual 50, 3) := by decide +kernel
theorem dX5_lengthsOf_17 : decode cX5_lengthsOf 17 = .ok (.imul, 1) := by decide +kernel
theorem dX5_lengthsOf_18 : decode cX5_lengthsOf 18 = .ok (.goto 9, 3) := by decide +kernel
theorem dX5_lengthsOf_21 : decode cX5_lengthsOf 21 = .ok (.aload_n 0, 1) := by decide +kernel
theorem dX5_lengthsOf_22 : decode cX5_lengthsOf 22 = .ok (.iload_n 1, 1) := by decide +kernel
theorem dX5_lengthsOf_23 : decode cX5_lengthsOf 23 = .ok (.iconst 0, 1) := by decide +kernel
theorem dX5_lengthsOf_24 : decode cX5_lengthsOf 24 = .ok (.invokevirtual 50, 3) := by decide +kernel
theorem dX5_lengthsOf_27 : decode cX5_lengthsOf 27 = .ok (.ireturn, 1) := by decide +kernel
theorem dX5_hardOf_0 : decode cX5_hardOf 0 = .ok (.iload_n 0, 1) := by decide +kernel
theorem dX5_hardOf_1 : decode cX5_hardOf 1 = .ok (.ifCond .ne 8, 3) := by decide +kernel
theorem dX5_hardOf_4 : decode cX5_hardOf 4 = .ok (.bipush 80, 2) := by decide +kernel
theorem dX5_hardOf_6 : decode cX5_hardOf 6 = .ok (.goto 24, 3) := by decide +kernel
theorem dX5_hardOf_9 : decode cX5_hardOf 9 = .ok (.iload_n 0, 1) := by decide +kernel
theorem dX5_hardOf_10 : decode cX5_hardOf 10 = .ok (.iconst 1, 1) := by decide +kernel
theorem dX5_hardOf_11 : decode cX5_hardOf 11 = .ok (.if_icmp .ne 8, 3) := by decide +kernel
theorem dX5_hardOf_14 : decode cX5_hardOf 14 = .ok (.bipush 20, 2) := by decide +kernel
theorem dX5_hardOf_16 : decode cX5_hardOf 16 = .ok (.goto 14, 3) := by decide +kernel
theorem dX5_hardOf_19 : decode cX5_hardOf 19 = .ok (.iload_n 0, 1) := by decide +kernel
theorem dX5_hardOf_20 : decode cX5_hardOf 20 = .ok (.iconst 2, 1) := by decide +kernel
theorem dX5_hardOf_21 : decode cX5_hardOf 21 = .ok (.if_icmp .ne 8, 3) := by decide +kernel
theorem dX5_hardOf_24 : decode cX5_hardOf 24 = .ok (.bipush 8, 2) := by decide +kernel
theorem dX5_hardOf_26 : decode cX5_hardOf 26 = .ok (.goto 4, 3) := by decide +kernel
theorem dX5_hardOf_29 : decode cX5_hardOf 29 = .ok (.iconst 2, 1) := by decide +kernel
theorem dX5_hardOf_30 : decode cX5_hardOf 30 = .ok (.ireturn, 1) := by decide +kernel
theorem dX5_standsOf_0 : decode cX5_standsOf 0 = .ok (.iload_n 0, 1) := by decide +kernel
theorem dX5_standsOf_1 : decode cX5_standsOf 1 = .ok (.ifCond .ne 8, 3) := by decide +kernel
theorem dX5_standsOf_4 : decode cX5_standsOf 4 = .ok (.bipush 100, 2) := by decide +kernel
theorem dX5_standsOf_6 : decode cX5_standsOf 6 = .ok (.goto 27, 3) := by decide +kernel
theorem dX5_standsOf_9 : decode cX5_standsOf 9 = .ok (.iload_n 0, 1) := by decide +kernel
theorem dX5_standsOf_10 : decode cX5_standsOf 10 = .ok (.iconst 1, 1) := by decide +kernel
theorem dX5_standsOf_11 : decode cX5_standsOf 11 = .ok (.if_icmp .ne 8, 3) := by decide +kernel
theorem dX5_standsOf_14 : decode cX5_standsOf 14 = .ok (.bipush 120, 2) := by decide +kernel
theorem dX5_standsOf_16 : decode cX5_standsOf 16 = .ok (.goto 17, 3) := by decide +kernel
theorem dX5_standsOf_19 : decode cX5_standsOf 19 = .ok (.iload_n 0, 1) := by decide +kernel
theorem dX5_standsOf_20 : decode cX5_standsOf 20 = .ok (.iconst 2, 1) := by decide +kernel
theorem dX5_standsOf_21 : decode cX5_standsOf 21 = .ok (.if_icmp .ne 9, 3) := by decide +kernel
theorem dX5_standsOf_24 : decode cX5_standsOf 24 = .ok (.sipush 150, 3) := by decide +kernel
theorem dX5_standsOf_27 : decode cX5_standsOf 27 = .ok (.goto 6, 3) := by decide +kernel
theorem dX5_standsOf_30 : decode cX5_standsOf 30 = .ok (.sipush 180, 3) := by decide +kernel
theorem dX5_standsOf_33 : decode cX5_standsOf 33 = .ok (.ireturn, 1) := by decide +kernel
set_option maxRecDepth 20000 in
theorem ggX5_lossOf_X5_ofSpan : GoodIn wsX5_lossOf wsX5_ofSpan := goodIn_r _ [5, 6, 10, 11, 12, 13, 14, 15, 16, 17, 18, 19, 20, 21, 22, 23, 24, 25] (by decide +kernel) (by decide +kernel)
set_option maxRecDepth 20000 in
theorem gX5_lossOf_X5_ofSpan : GoodIn wsX5_lossOf (wsV RX5 50 RX5 yX5_ofSpan wsX5_ofSpan) := goodIn_app (goodIn_of _ (by decide +kernel)) ggX5_lossOf_X5_ofSpan
set_option maxRecDepth 20000 in
theorem ggX5_lossOf_X5_hardOf : GoodIn wsX5_lossOf wsX5_hardOf := goodIn_r _ [9] (by decide +kernel) (by decide +kernel)
set_option maxRecDepth 20000 in
theorem gX5_lossOf_X5_hardOf : GoodIn wsX5_lossOf (va_wsS RX5 54 yX5_hardOf wsX5_hardOf) := goodIn_app (goodIn_of _ (by decide +kernel)) ggX5_lossOf_X5_hardOf
theorem dX5_lossOf_0 : decode cX5_lossOf 0 = .ok (.aload_n 0, 1) := by decide +kernel
theorem dX5_lossOf_1 : decode cX5_lossOf 1 = .ok (.iload_n 1, 1) := by decide +kernel
theorem dX5_lossOf_2 : decode cX5_lossOf 2 = .ok (.iconst 3, 1) := by decide +kernel
theorem dX5_lossOf_3 : decode cX5_lossOf 3 = .ok (.invokevirtual 50, 3) := by decide +kernel
theorem dX5_lossOf_6 : decode cX5_lossOf 6 = .ok (.iconst 1, 1) := by decide +kernel
theorem dX5_lossOf_7 : decode cX5_lossOf 7 = .ok (.if_icmp .ne 11, 3) := by decide +kernel
theorem dX5_lossOf_10 : decode cX5_lossOf 10 = .ok (.iload_n 2, 1) := by decide +kernel
theorem dX5_lossOf_11 : decode cX5_lossOf 11 = .ok (.iconst 1, 1) := by decide +kernel
theorem dX5_lossOf_12 : decode cX5_lossOf 12 = .ok (.iadd, 1) := by decide +kernel
theorem dX5_lossOf_13 : decode cX5_lossOf 13 = .ok (.iconst 2, 1) := by decide +kernel
theorem dX5_lossOf_14 : decode cX5_lossOf 14 = .ok (.idiv, 1) := by decide +kernel
theorem dX5_lossOf_15 : decode cX5_lossOf 15 = .ok (.goto 4, 3) := by decide +kernel
theorem dX5_lossOf_18 : decode cX5_lossOf 18 = .ok (.iload_n 2, 1) := by decide +kernel
theorem dX5_lossOf_19 : decode cX5_lossOf 19 = .ok (.istore_n 3, 1) := by decide +kernel
theorem dX5_lossOf_20 : decode cX5_lossOf 20 = .ok (.aload_n 0, 1) := by decide +kernel
theorem dX5_lossOf_21 : decode cX5_lossOf 21 = .ok (.iload_n 1, 1) := by decide +kernel
theorem dX5_lossOf_22 : decode cX5_lossOf 22 = .ok (.iconst 0, 1) := by decide +kernel
theorem dX5_lossOf_23 : decode cX5_lossOf 23 = .ok (.invokevirtual 50, 3) := by decide +kernel
theorem dX5_lossOf_26 : decode cX5_lossOf 26 = .ok (.aload_n 0, 1) := by decide +kernel
theorem dX5_lossOf_27 : decode cX5_lossOf 27 = .ok (.iload_n 1, 1) := by decide +kernel
theorem dX5_lossOf_28 : decode cX5_lossOf 28 = .ok (.iconst 1, 1) := by decide +kernel
theorem dX5_lossOf_29 : decode cX5_lossOf 29 = .ok (.invokevirtual 50, 3) := by decide +kernel
theorem dX5_lossOf_32 : decode cX5_lossOf 32 = .ok (.invokestatic 54, 3) := by decide +kernel
theorem dX5_lossOf_35 : decode cX5_lossOf 35 = .ok (.imul, 1) := by decide +kernel
theorem dX5_lossOf_36 : decode cX5_lossOf 36 = .ok (.iload_n 3, 1) := by decide +kernel
theorem dX5_lossOf_37 : decode cX5_lossOf 37 = .ok (.imul, 1) := by decide +kernel
theorem dX5_lossOf_38 : decode cX5_lossOf 38 = .ok (.iload_n 3, 1) := by decide +kernel
theorem dX5_lossOf_39 : decode cX5_lossOf 39 = .ok (.imul, 1) := by decide +kernel
theorem dX5_lossOf_40 : decode cX5_lossOf 40 = .ok (.bipush 100, 2) := by decide +kernel
theorem dX5_lossOf_42 : decode cX5_lossOf 42 = .ok (.idiv, 1) := by decide +kernel
theorem dX5_lossOf_43 : decode cX5_lossOf 43 = .ok (.aload_n 0, 1) := by decide +kernel
theorem dX5_lossOf_44 : decode cX5_lossOf 44 = .ok (.iload_n 1, 1) := by decide +kernel
theorem dX5_lossOf_45 : decode cX5_lossOf 45 = .ok (.iconst 2, 1) := by decide +kernel
theorem dX5_lossOf_46 : decode cX5_lossOf 46 = .ok (.invokevirtual 50, 3) := by decide +kernel
theorem dX5_lossOf_49 : decode cX5_lossOf 49 = .ok (.iadd, 1) := by decide +kernel
theorem dX5_lossOf_50 : decode cX5_lossOf 50 = .ok (.ireturn, 1) := by decide +kernel
theorem dX5_fail_0 : decode cX5_fail 0 = .ok (.aload_n 0, 1) := by decide +kernel
theorem dX5_fail_1 : decode cX5_fail 1 = .ok (.iload_n 1, 1) := by decide +kernel
theorem dX5_fail_2 : decode cX5_fail 2 = .ok (.putfield 58, 3) := by decide +kernel
theorem dX5_fail_5 : decode cX5_fail 5 = .ok (.aload_n 0, 1) := by decide +kernel
theorem dX5_fail_6 : decode cX5_fail 6 = .ok (.iload_n 2, 1) := by decide +kernel
theorem dX5_fail_7 : decode cX5_fail 7 = .ok (.putfield 61, 3) := by decide +kernel
theorem dX5_fail_10 : decode cX5_fail 10 = .ok (.return_, 1) := by decide +kernel
set_option maxRecDepth 20000 in
theorem ggX5_goOver_X5_ofSpan : GoodIn wsX5_goOver wsX5_ofSpan := goodIn_r _ [5, 6, 23, 24, 25, 26, 27, 28, 29, 30, 31, 32, 33, 34, 35, 36, 37, 38] (by decide +kernel) (by decide +kernel)
set_option maxRecDepth 20000 in
theorem gX5_goOver_X5_ofSpan : GoodIn wsX5_goOver (wsV RX5 50 RX5 yX5_ofSpan wsX5_ofSpan) := goodIn_app (goodIn_of _ (by decide +kernel)) ggX5_goOver_X5_ofSpan
set_option maxRecDepth 20000 in
theorem ggX5_goOver_X5_fail : GoodIn wsX5_goOver wsX5_fail := goodIn_r _ [10, 11, 12, 23, 24, 25, 26, 27, 28, 29, 30, 31, 32, 33, 34, 35, 36, 37, 38] (by decide +kernel) (by decide +kernel)
set_option maxRecDepth 20000 in
theorem gX5_goOver_X5_fail : GoodIn wsX5_goOver (wsV RX5 64 RX5 yX5_fail wsX5_fail) := goodIn_app (goodIn_of _ (by decide +kernel)) ggX5_goOver_X5_fail
set_option maxRecDepth 20000 in
theorem ggX5_goOver_X5_standsOf : GoodIn wsX5_goOver wsX5_standsOf := goodIn_r _ [15] (by decide +kernel) (by decide +kernel)
set_option maxRecDepth 20000 in
theorem gX5_goOver_X5_standsOf : GoodIn wsX5_goOver (va_wsS RX5 68 yX5_standsOf wsX5_standsOf) := goodIn_app (goodIn_of _ (by decide +kernel)) ggX5_goOver_X5_standsOf
set_option maxRecDepth 20000 in
theorem ggX5_goOver_X5_lossOf : GoodIn wsX5_goOver wsX5_lossOf := goodIn_r _ [19, 1, 2, 3, 4, 5, 6, 20, 21, 22, 23, 24, 25, 26, 27, 28, 29, 30, 31, 32, 33, 34, 35, 36, 37, 38] (by decide +kernel) (by decide +kernel)
set_option maxRecDepth 20000 in
theorem gX5_goOver_X5_lossOf : GoodIn wsX5_goOver (wsV RX5 71 RX5 yX5_lossOf wsX5_lossOf) := goodIn_app (goodIn_of _ (by decide +kernel)) ggX5_goOver_X5_lossOf
theorem dX5_goOver_0 : decode cX5_goOver 0 = .ok (.aload_n 0, 1) := by decide +kernel
theorem dX5_goOver_1 : decode cX5_goOver 1 = .ok (.iload_n 1, 1) := by decide +kernel
theorem dX5_goOver_2 : decode cX5_goOver 2 = .ok (.iconst 4, 1) := by decide +kernel
theorem dX5_goOver_3 : decode cX5_goOver 3 = .ok (.invokevirtual 50, 3) := by decide +kernel
theorem dX5_goOver_6 : decode cX5_goOver 6 = .ok (.iconst 1, 1) := by decide +kernel
theorem dX5_goOver_7 : decode cX5_goOver 7 = .ok (.if_icmp .ne 11, 3) := by decide +kernel
theorem dX5_goOver_10 : decode cX5_goOver 10 = .ok (.aload_n 0, 1) := by decide +kernel
theorem dX5_goOver_11 : decode cX5_goOver 11 = .ok (.iload_n 1, 1) := by decide +kernel
theorem dX5_goOver_12 : decode cX5_goOver 12 = .ok (.iconst 1, 1) := by decide +kernel
theorem dX5_goOver_13 : decode cX5_goOver 13 = .ok (.invokevirtual 64, 3) := by decide +kernel
theorem dX5_goOver_16 : decode cX5_goOver 16 = .ok (.iload_n 2, 1) := by decide +kernel
theorem dX5_goOver_17 : decode cX5_goOver 17 = .ok (.ireturn, 1) := by decide +kernel
theorem dX5_goOver_18 : decode cX5_goOver 18 = .ok (.iload_n 2, 1) := by decide +kernel
theorem dX5_goOver_19 : decode cX5_goOver 19 = .ok (.aload_n 0, 1) := by decide +kernel
theorem dX5_goOver_20 : decode cX5_goOver 20 = .ok (.iload_n 1, 1) := by decide +kernel
theorem dX5_goOver_21 : decode cX5_goOver 21 = .ok (.iconst 1, 1) := by decide +kernel
theorem dX5_goOver_22 : decode cX5_goOver 22 = .ok (.invokevirtual 50, 3) := by decide +kernel
theorem dX5_goOver_25 : decode cX5_goOver 25 = .ok (.invokestatic 68, 3) := by decide +kernel
theorem dX5_goOver_28 : decode cX5_goOver 28 = .ok (.if_icmp .le 11, 3) := by decide +kernel
theorem dX5_goOver_31 : decode cX5_goOver 31 = .ok (.aload_n 0, 1) := by decide +kernel
theorem dX5_goOver_32 : decode cX5_goOver 32 = .ok (.iload_n 1, 1) := by decide +kernel
theorem dX5_goOver_33 : decode cX5_goOver 33 = .ok (.iconst 4, 1) := by decide +kernel
theorem dX5_goOver_34 : decode cX5_goOver 34 = .ok (.invokevirtual 64, 3) := by decide +kernel
theorem dX5_goOver_37 : decode cX5_goOver 37 = .ok (.iload_n 2, 1) := by decide +kernel
theorem dX5_goOver_38 : decode cX5_goOver 38 = .ok (.ireturn, 1) := by decide +kernel
theorem dX5_goOver_39 : decode cX5_goOver 39 = .ok (.iload_n 2, 1) := by decide +kernel
theorem dX5_goOver_40 : decode cX5_goOver 40 = .ok (.aload_n 0, 1) := by decide +kernel
theorem dX5_goOver_41 : decode cX5_goOver 41 = .ok (.iload_n 1, 1) := by decide +kernel
theorem dX5_goOver_42 : decode cX5_goOver 42 = .ok (.iload_n 3, 1) := by decide +kernel
theorem dX5_goOver_43 : decode cX5_goOver 43 = .ok (.invokevirtual 71, 3) := by decide +kernel
theorem dX5_goOver_46 : decode cX5_goOver 46 = .ok (.isub, 1) := by decide +kernel
theorem dX5_goOver_47 : decode cX5_goOver 47 = .ok (.istore 4, 2) := by decide +kernel
theorem dX5_goOver_49 : decode cX5_goOver 49 = .ok (.iload 4, 2) := by decide +kernel
theorem dX5_goOver_51 : decode cX5_goOver 51 = .ok (.ifCond .ge 9, 3) := by decide +kernel
theorem dX5_goOver_54 : decode cX5_goOver 54 = .ok (.aload_n 0, 1) := by decide +kernel
theorem dX5_goOver_55 : decode cX5_goOver 55 = .ok (.iload_n 1, 1) := by decide +kernel
theorem dX5_goOver_56 : decode cX5_goOver 56 = .ok (.iconst 3, 1) := by decide +kernel
theorem dX5_goOver_57 : decode cX5_goOver 57 = .ok (.invokevirtual 64, 3) := by decide +kernel
theorem dX5_goOver_60 : decode cX5_goOver 60 = .ok (.iload 4, 2) := by decide +kernel
theorem dX5_goOver_62 : decode cX5_goOver 62 = .ok (.ireturn, 1) := by decide +kernel
set_option maxRecDepth 20000 in
theorem ggX5_goRun_X5_has : GoodIn wsX5_goRun wsX5_has := goodIn_r _ [11] (by decide +kernel) (by decide +kernel)
set_option maxRecDepth 20000 in
theorem gX5_goRun_X5_has : GoodIn wsX5_goRun (va_wsS RX5 78 yX5_has wsX5_has) := goodIn_app (goodIn_of _ (by decide +kernel)) ggX5_goRun_X5_has
set_option maxRecDepth 20000 in
theorem ggX5_goRun_X5_fail : GoodIn wsX5_goRun wsX5_fail := goodIn_r _ [15, 4, 5, 34, 35, 36, 37, 38, 39, 40, 41, 42, 43, 44, 45, 46, 47, 48, 49] (by decide +kernel) (by decide +kernel)
set_option maxRecDepth 20000 in
theorem gX5_goRun_X5_fail : GoodIn wsX5_goRun (wsV RX5 64 RX5 yX5_fail wsX5_fail) := goodIn_app (goodIn_of _ (by decide +kernel)) ggX5_goRun_X5_fail
set_option maxRecDepth 20000 in
theorem ggX5_goRun_X5_goOver : GoodIn wsX5_goRun wsX5_goOver := goodIn_r _ [19, 20, 21, 22, 10, 23, 7, 12, 13, 14, 15, 4, 5, 24, 25, 26, 27, 28, 29, 30, 31, 32, 33, 34, 35, 36, 37, 38, 39, 40, 41, 42, 43, 44, 45, 46, 47, 48, 49] (by decide +kernel) (by decide +kernel)
set_option maxRecDepth 20000 in
theorem gX5_goRun_X5_goOver : GoodIn wsX5_goRun (wsV RX5 82 RX5 yX5_goOver wsX5_goOver) := goodIn_app (goodIn_of _ (by decide +kernel)) ggX5_goRun_X5_goOver
theorem dX5_goRun_0 : decode cX5_goRun 0 = .ok (.iconst 0, 1) := by decide +kernel
theorem dX5_goRun_1 : decode cX5_goRun 1 = .ok (.istore_n 3, 1) := by decide +kernel
theorem dX5_goRun_2 : decode cX5_goRun 2 = .ok (.iload_n 3, 1) := by decide +kernel
theorem dX5_goRun_3 : decode cX5_goRun 3 = .ok (.bipush 10, 2) := by decide +kernel
theorem dX5_goRun_5 : decode cX5_goRun 5 = .ok (.if_icmp .gt 25, 3) := by decide +kernel
theorem dX5_goRun_8 : decode cX5_goRun 8 = .ok (.aload_n 0, 1) := by decide +kernel
theorem dX5_goRun_9 : decode cX5_goRun 9 = .ok (.getfield 25, 3) := by decide +kernel
theorem dX5_goRun_12 : decode cX5_goRun 12 = .ok (.iload_n 3, 1) := by decide +kernel
theorem dX5_goRun_13 : decode cX5_goRun 13 = .ok (.ldc 74, 2) := by decide +kernel
theorem dX5_goRun_15 : decode cX5_goRun 15 = .ok (.iastore, 1) := by decide +kernel
theorem dX5_goRun_16 : decode cX5_goRun 16 = .ok (.aload_n 0, 1) := by decide +kernel
theorem dX5_goRun_17 : decode cX5_goRun 17 = .ok (.getfield 28, 3) := by decide +kernel
theorem dX5_goRun_20 : decode cX5_goRun 20 = .ok (.iload_n 3, 1) := by decide +kernel
theorem dX5_goRun_21 : decode cX5_goRun 21 = .ok (.ldc 74, 2) := by decide +kernel
theorem dX5_goRun_23 : decode cX5_goRun 23 = .ok (.iastore, 1) := by decide +kernel
theorem dX5_goRun_24 : decode cX5_goRun 24 = .ok (.iinc 3 1, 3) := by decide +kernel
theorem dX5_goRun_27 : decode cX5_goRun 27 = .ok (.goto (-25), 3) := by decide +kernel
theorem dX5_goRun_30 : decode cX5_goRun 30 = .ok (.aload_n 0, 1) := by decide +kernel
theorem dX5_goRun_31 : decode cX5_goRun 31 = .ok (.ldc 74, 2) := by decide +kernel
theorem dX5_goRun_33 : decode cX5_goRun 33 = .ok (.putfield 58, 3) := by decide +kernel
theorem dX5_goRun_36 : decode cX5_goRun 36 = .ok (.aload_n 0, 1) := by decide +kernel
theorem dX5_goRun_37 : decode cX5_goRun 37 = .ok (.iconst 0, 1) := by decide +kernel
theorem dX5_goRun_38 : decode cX5_goRun 38 = .ok (.putfield 61, 3) := by decide +kernel
theorem dX5_goRun_41 : decode cX5_goRun 41 = .ok (.aload_n 0, 1) := by decide +kernel
theorem dX5_goRun_42 : decode cX5_goRun 42 = .ok (.ldc 74, 2) := by decide +kernel
theorem dX5_goRun_44 : decode cX5_goRun 44 = .ok (.putfield 75, 3) := by decide +kernel
theorem dX5_goRun_47 : decode cX5_goRun 47 = .ok (.aload_n 0, 1) := by decide +kernel
theorem dX5_goRun_48 : decode cX5_goRun 48 = .ok (.getfield 7, 3) := by decide +kernel
theorem dX5_goRun_51 : decode cX5_goRun 51 = .ok (.iconst 3, 1) := by decide +kernel
theorem dX5_goRun_52 : decode cX5_goRun 52 = .ok (.iaload, 1) := by decide +kernel
theorem dX5_goRun_53 : decode cX5_goRun 53 = .ok (.istore_n 3, 1) := by decide +kernel
theorem dX5_goRun_54 : decode cX5_goRun 54 = .ok (.iconst 0, 1) := by decide +kernel
theorem dX5_goRun_55 : decode cX5_goRun 55 = .ok (.istore 4, 2) := by decide +kernel
theorem dX5_goRun_57 : decode cX5_goRun 57 = .ok (.iload 4, 2) := by decide +kernel
theorem dX5_goRun_59 : decode cX5_goRun 59 = .ok (.aload_n 0, 1) := by decide +kernel
theorem dX5_goRun_60 : decode cX5_goRun 60 = .ok (.getfield 7, 3) := by decide +kernel
theorem dX5_goRun_63 : decode cX5_goRun 63 = .ok (.iconst 0, 1) := by decide +kernel
theorem dX5_goRun_64 : decode cX5_goRun 64 = .ok (.iaload, 1) := by decide +kernel
theorem dX5_goRun_65 : decode cX5_goRun 65 = .ok (.if_icmp .gt 136, 3) := by decide +kernel
theorem dX5_goRun_68 : decode cX5_goRun 68 = .ok (.aload_n 0, 1) := by decide +kernel
theorem dX5_goRun_69 : decode cX5_goRun 69 = .ok (.getfield 61, 3) := by decide +kernel
theorem dX5_goRun_72 : decode cX5_goRun 72 = .ok (.ifCond .ne 129, 3) := by decide +kernel
theorem dX5_goRun_75 : decode cX5_goRun 75 = .ok (.aload_n 0, 1) := by decide +kernel
theorem dX5_goRun_76 : decode cX5_goRun 76 = .ok (.getfield 25, 3) := by decide +kernel
theorem dX5_goRun_79 : decode cX5_goRun 79 = .ok (.iload 4, 2) := by decide +kernel
theorem dX5_goRun_81 : decode cX5_goRun 81 = .ok (.iload_n 3, 1) := by decide +kernel
theorem dX5_goRun_82 : decode cX5_goRun 82 = .ok (.iastore, 1) := by decide +kernel
theorem dX5_goRun_83 : decode cX5_goRun 83 = .ok (.iload_n 2, 1) := by decide +kernel
theorem dX5_goRun_84 : decode cX5_goRun 84 = .ok (.iload 4, 2) := by decide +kernel
theorem dX5_goRun_86 : decode cX5_goRun 86 = .ok (.invokestatic 78, 3) := by decide +kernel
theorem dX5_goRun_89 : decode cX5_goRun 89 = .ok (.ifCond .eq 23, 3) := by decide +kernel
theorem dX5_goRun_92 : decode cX5_goRun 92 = .ok (.iload_n 3, 1) := by decide +kernel
theorem dX5_goRun_93 : decode cX5_goRun 93 = .ok (.aload_n 0, 1) := by decide +kernel
theorem dX5_goRun_94 : decode cX5_goRun 94 = .ok (.getfield 7, 3) := by decide +kernel
theorem dX5_goRun_97 : decode cX5_goRun 97 = .ok (.bipush 6, 2) := by decide +kernel
theorem dX5_goRun_99 : decode cX5_goRun 99 = .ok (.iaload, 1) := by decide +kernel
theorem dX5_goRun_100 : decode cX5_goRun 100 = .ok (.if_icmp .ge 12, 3) := by decide +kernel
theorem dX5_goRun_103 : decode cX5_goRun 103 = .ok (.aload_n 0, 1) := by decide +kernel
theorem dX5_goRun_104 : decode cX5_goRun 104 = .ok (.iload 4, 2) := by decide +kernel
theorem dX5_goRun_106 : decode cX5_goRun 106 = .ok (.iconst 2, 1) := by decide +kernel
theorem dX5_goRun_107 : decode cX5_goRun 107 = .ok (.invokevirtual 64, 3) := by decide +kernel
theorem dX5_goRun_110 : decode cX5_goRun 110 = .ok (.iconst 0, 1) := by decide +kernel
theorem dX5_goRun_111 : decode cX5_goRun 111 = .ok (.ireturn, 1) := by decide +kernel
theorem dX5_goRun_112 : decode cX5_goRun 112 = .ok (.iload_n 2, 1) := by decide +kernel
theorem dX5_goRun_113 : decode cX5_goRun 113 = .ok (.iload 4, 2) := by decide +kernel
theorem dX5_goRun_115 : decode cX5_goRun 115 = .ok (.invokestatic 78, 3) := by decide +kernel
theorem dX5_goRun_118 : decode cX5_goRun 118 = .ok (.ifCond .eq 22, 3) := by decide +kernel
theorem dX5_goRun_121 : decode cX5_goRun 121 = .ok (.aload_n 0, 1) := by decide +kernel
theorem dX5_goRun_122 : decode cX5_goRun 122 = .ok (.getfield 7, 3) := by decide +kernel
theorem dX5_goRun_125 : decode cX5_goRun 125 = .ok (.iconst 5, 1) := by decide +kernel
theorem dX5_goRun_126 : decode cX5_goRun 126 = .ok (.iaload, 1) := by decide +kernel
theorem dX5_goRun_127 : decode cX5_goRun 127 = .ok (.iload_n 3, 1) := by decide +kernel
theorem dX5_goRun_128 : decode cX5_goRun 128 = .ok (.if_icmp .le 12, 3) := by decide +kernel
theorem dX5_goRun_131 : decode cX5_goRun 131 = .ok (.aload_n 0, 1) := by decide +kernel
theorem dX5_goRun_132 : decode cX5_goRun 132 = .ok (.getfield 7, 3) := by decide +kernel
theorem dX5_goRun_135 : decode cX5_goRun 135 = .ok (.iconst 5, 1) := by decide +kernel
theorem dX5_goRun_136 : decode cX5_goRun 136 = .ok (.iaload, 1) := by decide +kernel
theorem dX5_goRun_137 : decode cX5_goRun 137 = .ok (.goto 4, 3) := by decide +kernel
theorem dX5_goRun_140 : decode cX5_goRun 140 = .ok (.iload_n 3, 1) := by decide +kernel
theorem dX5_goRun_141 : decode cX5_goRun 141 = .ok (.istore_n 3, 1) := by decide +kernel
theorem dX5_goRun_142 : decode cX5_goRun 142 = .ok (.aload_n 0, 1) := by decide +kernel
theorem dX5_goRun_143 : decode cX5_goRun 143 = .ok (.getfield 28, 3) := by decide +kernel
theorem dX5_goRun_146 : decode cX5_goRun 146 = .ok (.iload 4, 2) := by decide +kernel
theorem dX5_goRun_148 : decode cX5_goRun 148 = .ok (.iload_n 3, 1) := by decide +kernel
theorem dX5_goRun_149 : decode cX5_goRun 149 = .ok (.iastore, 1) := by decide +kernel
theorem dX5_goRun_150 : decode cX5_goRun 150 = .ok (.iload 4, 2) := by decide +kernel
theorem dX5_goRun_152 : decode cX5_goRun 152 = .ok (.aload_n 0, 1) := by decide +kernel
theorem dX5_goRun_153 : decode cX5_goRun 153 = .ok (.getfield 7, 3) := by decide +kernel
theorem dX5_goRun_156 : decode cX5_goRun 156 = .ok (.iconst 0, 1) := by decide +kernel
theorem dX5_goRun_157 : decode cX5_goRun 157 = .ok (.iaload, 1) := by decide +kernel
theorem dX5_goRun_158 : decode cX5_goRun 158 = .ok (.if_icmp .ne 28, 3) := by decide +kernel
theorem dX5_goRun_161 : decode cX5_goRun 161 = .ok (.aload_n 0, 1) := by decide +kernel
theorem dX5_goRun_162 : decode cX5_goRun 162 = .ok (.iload_n 3, 1) := by decide +kernel
theorem dX5_goRun_163 : decode cX5_goRun 163 = .ok (.putfield 75, 3) := by decide +kernel
theorem dX5_goRun_166 : decode cX5_goRun 166 = .ok (.iload_n 3, 1) := by decide +kernel
theorem dX5_goRun_167 : decode cX5_goRun 167 = .ok (.aload_n 0, 1) := by decide +kernel
theorem dX5_goRun_168 : decode cX5_goRun 168 = .ok (.getfield 7, 3) := by decide +kernel
theorem dX5_goRun_171 : decode cX5_goRun 171 = .ok (.iconst 4, 1) := by decide +kernel
theorem dX5_goRun_172 : decode cX5_goRun 172 = .ok (.iaload, 1) := by decide +kernel
theorem dX5_goRun_173 : decode cX5_goRun 173 = .ok (.if_icmp .ge 22, 3) := by decide +kernel
theorem dX5_goRun_176 : decode cX5_goRun 176 = .ok (.aload_n 0, 1) := by decide +kernel
theorem dX5_goRun_177 : decode cX5_goRun 177 = .ok (.iload 4, 2) := by decide +kernel
theorem dX5_goRun_179 : decode cX5_goRun 179 = .ok (.iconst 5, 1) := by decide +kernel
theorem dX5_goRun_180 : decode cX5_goRun 180 = .ok (.invokevirtual 64, 3) := by decide +kernel
theorem dX5_goRun_183 : decode cX5_goRun 183 = .ok (.goto 12, 3) := by decide +kernel
theorem dX5_goRun_186 : decode cX5_goRun 186 = .ok (.aload_n 0, 1) := by decide +kernel
theorem dX5_goRun_187 : decode cX5_goRun 187 = .ok (.iload 4, 2) := by decide +kernel
theorem dX5_goRun_189 : decode cX5_goRun 189 = .ok (.iload_n 3, 1) := by decide +kernel
theorem dX5_goRun_190 : decode cX5_goRun 190 = .ok (.iload_n 1, 1) := by decide +kernel
theorem dX5_goRun_191 : decode cX5_goRun 191 = .ok (.invokevirtual 82, 3) := by decide +kernel
theorem dX5_goRun_194 : decode cX5_goRun 194 = .ok (.istore_n 3, 1) := by decide +kernel
theorem dX5_goRun_195 : decode cX5_goRun 195 = .ok (.iinc 4 1, 3) := by decide +kernel
theorem dX5_goRun_198 : decode cX5_goRun 198 = .ok (.goto (-141), 3) := by decide +kernel
theorem dX5_goRun_201 : decode cX5_goRun 201 = .ok (.aload_n 0, 1) := by decide +kernel
theorem dX5_goRun_202 : decode cX5_goRun 202 = .ok (.getfield 61, 3) := by decide +kernel
theorem dX5_goRun_205 : decode cX5_goRun 205 = .ok (.ifCond .ne 7, 3) := by decide +kernel
theorem dX5_goRun_208 : decode cX5_goRun 208 = .ok (.iconst 1, 1) := by decide +kernel
theorem dX5_goRun_209 : decode cX5_goRun 209 = .ok (.goto 4, 3) := by decide +kernel
theorem dX5_goRun_212 : decode cX5_goRun 212 = .ok (.iconst 0, 1) := by decide +kernel
theorem dX5_goRun_213 : decode cX5_goRun 213 = .ok (.ireturn, 1) := by decide +kernel
set_option maxRecDepth 20000 in
theorem ggX5_findFewest_X5_ones : GoodIn wsX5_findFewest wsX5_ones := goodIn_r _ [7] (by decide +kernel) (by decide +kernel)
set_option maxRecDepth 20000 in
theorem gX5_findFewest_X5_ones : GoodIn wsX5_findFewest (va_wsS RX5 89 yX5_ones wsX5_ones) := goodIn_app (goodIn_of _ (by decide +kernel)) ggX5_findFewest_X5_ones
set_option maxRecDepth 20000 in
theorem ggX5_findFewest_X5_goRun : GoodIn wsX5_findFewest wsX5_goRun := goodIn_r _ [11, 12, 1, 13, 14, 15, 16, 3, 17, 18, 6, 19, 20, 21, 22, 23, 24, 25, 26, 27, 28, 29, 30, 31, 32, 33, 34, 35, 36, 37, 38, 39, 40, 41, 42, 43, 44, 45, 46, 47, 48, 49, 50, 51, 52, 53, 54, 55, 56, 57] (by decide +kernel) (by decide +kernel)
set_option maxRecDepth 20000 in
theorem gX5_findFewest_X5_goRun : GoodIn wsX5_findFewest (wsV RX5 92 RX5 yX5_goRun wsX5_goRun) := goodIn_app (goodIn_of _ (by decide +kernel)) ggX5_findFewest_X5_goRun
theorem dX5_findFewest_0 : decode cX5_findFewest 0 = .ok (.aload_n 0, 1) := by decide +kernel
theorem dX5_findFewest_1 : decode cX5_findFewest 1 = .ok (.ldc 74, 2) := by decide +kernel
theorem dX5_findFewest_3 : decode cX5_findFewest 3 = .ok (.putfield 86, 3) := by decide +kernel
theorem dX5_findFewest_6 : decode cX5_findFewest 6 = .ok (.iconst 0, 1) := by decide +kernel
theorem dX5_findFewest_7 : decode cX5_findFewest 7 = .ok (.istore_n 2, 1) := by decide +kernel
theorem dX5_findFewest_8 : decode cX5_findFewest 8 = .ok (.iload_n 2, 1) := by decide +kernel
theorem dX5_findFewest_9 : decode cX5_findFewest 9 = .ok (.iconst 1, 1) := by decide +kernel
theorem dX5_findFewest_10 : decode cX5_findFewest 10 = .ok (.aload_n 0, 1) := by decide +kernel
theorem dX5_findFewest_11 : decode cX5_findFewest 11 = .ok (.getfield 7, 3) := by decide +kernel
theorem dX5_findFewest_14 : decode cX5_findFewest 14 = .ok (.iconst 0, 1) := by decide +kernel
theorem dX5_findFewest_15 : decode cX5_findFewest 15 = .ok (.iaload, 1) := by decide +kernel
theorem dX5_findFewest_16 : decode cX5_findFewest 16 = .ok (.ishl, 1) := by decide +kernel
theorem dX5_findFewest_17 : decode cX5_findFewest 17 = .ok (.if_icmp .ge 63, 3) := by decide +kernel
theorem dX5_findFewest_20 : decode cX5_findFewest 20 = .ok (.aload_n 0, 1) := by decide +kernel
theorem dX5_findFewest_21 : decode cX5_findFewest 21 = .ok (.getfield 86, 3) := by decide +kernel
theorem dX5_findFewest_24 : decode cX5_findFewest 24 = .ok (.ldc 74, 2) := by decide +kernel
theorem dX5_findFewest_26 : decode cX5_findFewest 26 = .ok (.if_icmp .eq 17, 3) := by decide +kernel
theorem dX5_findFewest_29 : decode cX5_findFewest 29 = .ok (.iload_n 2, 1) := by decide +kernel
theorem dX5_findFewest_30 : decode cX5_findFewest 30 = .ok (.invokestatic 89, 3) := by decide +kernel
theorem dX5_findFewest_33 : decode cX5_findFewest 33 = .ok (.aload_n 0, 1) := by decide +kernel
theorem dX5_findFewest_34 : decode cX5_findFewest 34 = .ok (.getfield 86, 3) := by decide +kernel
theorem dX5_findFewest_37 : decode cX5_findFewest 37 = .ok (.invokestatic 89, 3) := by decide +kernel
theorem dX5_findFewest_40 : decode cX5_findFewest 40 = .ok (.if_icmp .ge 7, 3) := by decide +kernel
theorem dX5_findFewest_43 : decode cX5_findFewest 43 = .ok (.iconst 1, 1) := by decide +kernel
theorem dX5_findFewest_44 : decode cX5_findFewest 44 = .ok (.goto 4, 3) := by decide +kernel
theorem dX5_findFewest_47 : decode cX5_findFewest 47 = .ok (.iconst 0, 1) := by decide +kernel
theorem dX5_findFewest_48 : decode cX5_findFewest 48 = .ok (.istore_n 3, 1) := by decide +kernel
theorem dX5_findFewest_49 : decode cX5_findFewest 49 = .ok (.aload_n 0, 1) := by decide +kernel
theorem dX5_findFewest_50 : decode cX5_findFewest 50 = .ok (.iload_n 3, 1) := by decide +kernel
theorem dX5_findFewest_51 : decode cX5_findFewest 51 = .ok (.ifCond .eq 16, 3) := by decide +kernel
theorem dX5_findFewest_54 : decode cX5_findFewest 54 = .ok (.aload_n 0, 1) := by decide +kernel
theorem dX5_findFewest_55 : decode cX5_findFewest 55 = .ok (.iload_n 1, 1) := by decide +kernel
theorem dX5_findFewest_56 : decode cX5_findFewest 56 = .ok (.iload_n 2, 1) := by decide +kernel
theorem dX5_findFewest_57 : decode cX5_findFewest 57 = .ok (.invokevirtual 92, 3) := by decide +kernel
theorem dX5_findFewest_60 : decode cX5_findFewest 60 = .ok (.ifCond .eq 7, 3) := by decide +kernel
theorem dX5_findFewest_63 : decode cX5_findFewest 63 = .ok (.iload_n 2, 1) := by decide +kernel
theorem dX5_findFewest_64 : decode cX5_findFewest 64 = .ok (.goto 7, 3) := by decide +kernel
theorem dX5_findFewest_67 : decode cX5_findFewest 67 = .ok (.aload_n 0, 1) := by decide +kernel
theorem dX5_findFewest_68 : decode cX5_findFewest 68 = .ok (.getfield 86, 3) := by decide +kernel
theorem dX5_findFewest_71 : decode cX5_findFewest 71 = .ok (.putfield 86, 3) := by decide +kernel
theorem dX5_findFewest_74 : decode cX5_findFewest 74 = .ok (.iinc 2 1, 3) := by decide +kernel
theorem dX5_findFewest_77 : decode cX5_findFewest 77 = .ok (.goto (-69), 3) := by decide +kernel
theorem dX5_findFewest_80 : decode cX5_findFewest 80 = .ok (.aload_n 0, 1) := by decide +kernel
theorem dX5_findFewest_81 : decode cX5_findFewest 81 = .ok (.getfield 86, 3) := by decide +kernel
theorem dX5_findFewest_84 : decode cX5_findFewest 84 = .ok (.ldc 74, 2) := by decide +kernel
theorem dX5_findFewest_86 : decode cX5_findFewest 86 = .ok (.if_icmp .eq 7, 3) := by decide +kernel
theorem dX5_findFewest_89 : decode cX5_findFewest 89 = .ok (.iconst 1, 1) := by decide +kernel
theorem dX5_findFewest_90 : decode cX5_findFewest 90 = .ok (.goto 4, 3) := by decide +kernel
theorem dX5_findFewest_93 : decode cX5_findFewest 93 = .ok (.iconst 0, 1) := by decide +kernel
theorem dX5_findFewest_94 : decode cX5_findFewest 94 = .ok (.ireturn, 1) := by decide +kernel
set_option maxRecDepth 20000 in
theorem ggX5_fewestOf_X5_findFewest : GoodIn wsX5_fewestOf wsX5_findFewest := goodIn_r _ [7, 1, 2, 8, 9, 10, 6, 11, 12, 13, 14, 15, 16, 17, 18, 19, 20, 21, 22, 23, 24, 25, 26, 27, 28, 29, 30, 31, 32, 33, 34, 35, 36, 37, 38, 39, 40, 41, 42, 43, 44, 45, 46, 47, 48, 49, 50, 51, 52, 53, 54, 55, 56, 57, 58, 59, 60, 61] (by decide +kernel) (by decide +kernel)
set_option maxRecDepth 20000 in
theorem gX5_fewestOf_X5_findFewest : GoodIn wsX5_fewestOf (wsV RX5 95 RX5 yX5_findFewest wsX5_findFewest) := goodIn_app (goodIn_of _ (by decide +kernel)) ggX5_fewestOf_X5_findFewest
set_option maxRecDepth 20000 in
theorem ggX5_fewestOf_X5_ones : GoodIn wsX5_fewestOf wsX5_ones := goodIn_r _ [11] (by decide +kernel) (by decide +kernel)
set_option maxRecDepth 20000 in
theorem gX5_fewestOf_X5_ones : GoodIn wsX5_fewestOf (va_wsS RX5 89 yX5_ones wsX5_ones) := goodIn_app (goodIn_of _ (by decide +kernel)) ggX5_fewestOf_X5_ones
theorem dX5_fewestOf_0 : decode cX5_fewestOf 0 = .ok (.aload_n 0, 1) := by decide +kernel
theorem dX5_fewestOf_1 : decode cX5_fewestOf 1 = .ok (.iload_n 1, 1) := by decide +kernel
theorem dX5_fewestOf_2 : decode cX5_fewestOf 2 = .ok (.invokevirtual 95, 3) := by decide +kernel
theorem dX5_fewestOf_5 : decode cX5_fewestOf 5 = .ok (.istore_n 3, 1) := by decide +kernel
theorem dX5_fewestOf_6 : decode cX5_fewestOf 6 = .ok (.iload_n 3, 1) := by decide +kernel
theorem dX5_fewestOf_7 : decode cX5_fewestOf 7 = .ok (.ifCond .ne 8, 3) := by decide +kernel
theorem dX5_fewestOf_10 : decode cX5_fewestOf 10 = .ok (.ldc 74, 2) := by decide +kernel
theorem dX5_fewestOf_12 : decode cX5_fewestOf 12 = .ok (.goto 21, 3) := by decide +kernel
theorem dX5_fewestOf_15 : decode cX5_fewestOf 15 = .ok (.iload_n 2, 1) := by decide +kernel
theorem dX5_fewestOf_16 : decode cX5_fewestOf 16 = .ok (.ifCond .ne 13, 3) := by decide +kernel
theorem dX5_fewestOf_19 : decode cX5_fewestOf 19 = .ok (.aload_n 0, 1) := by decide +kernel
theorem dX5_fewestOf_20 : decode cX5_fewestOf 20 = .ok (.getfield 86, 3) := by decide +kernel
theorem dX5_fewestOf_23 : decode cX5_fewestOf 23 = .ok (.invokestatic 89, 3) := by decide +kernel
theorem dX5_fewestOf_26 : decode cX5_fewestOf 26 = .ok (.goto 7, 3) := by decide +kernel
theorem dX5_fewestOf_29 : decode cX5_fewestOf 29 = .ok (.aload_n 0, 1) := by decide +kernel
theorem dX5_fewestOf_30 : decode cX5_fewestOf 30 = .ok (.getfield 86, 3) := by decide +kernel
theorem dX5_fewestOf_33 : decode cX5_fewestOf 33 = .ok (.ireturn, 1) := by decide +kernel
set_option maxRecDepth 20000 in
theorem ggX5_mostNow_X5_goRun : GoodIn wsX5_mostNow wsX5_goRun := goodIn_r _ [7, 8, 1, 9, 10, 11, 12, 2, 13, 14, 6, 15, 16, 17, 18, 19, 20, 21, 22, 23, 24, 25, 26, 27, 28, 29, 30, 31, 32, 33, 34, 35, 36, 37, 38, 39, 40, 41, 42, 43, 44, 45, 46, 47, 48, 49, 50, 51, 52, 53] (by decide +kernel) (by decide +kernel)
set_option maxRecDepth 20000 in
theorem gX5_mostNow_X5_goRun : GoodIn wsX5_mostNow (wsV RX5 92 RX5 yX5_goRun wsX5_goRun) := goodIn_app (goodIn_of _ (by decide +kernel)) ggX5_mostNow_X5_goRun
theorem dX5_mostNow_0 : decode cX5_mostNow 0 = .ok (.ldc 74, 2) := by decide +kernel
theorem dX5_mostNow_2 : decode cX5_mostNow 2 = .ok (.istore_n 1, 1) := by decide +kernel
theorem dX5_mostNow_3 : decode cX5_mostNow 3 = .ok (.iconst 1, 1) := by decide +kernel
theorem dX5_mostNow_4 : decode cX5_mostNow 4 = .ok (.istore_n 2, 1) := by decide +kernel
theorem dX5_mostNow_5 : decode cX5_mostNow 5 = .ok (.iload_n 2, 1) := by decide +kernel
theorem dX5_mostNow_6 : decode cX5_mostNow 6 = .ok (.bipush 30, 2) := by decide +kernel
theorem dX5_mostNow_8 : decode cX5_mostNow 8 = .ok (.if_icmp .gt 29, 3) := by decide +kernel
theorem dX5_mostNow_11 : decode cX5_mostNow 11 = .ok (.aload_n 0, 1) := by decide +kernel
theorem dX5_mostNow_12 : decode cX5_mostNow 12 = .ok (.iload_n 2, 1) := by decide +kernel
theorem dX5_mostNow_13 : decode cX5_mostNow 13 = .ok (.aload_n 0, 1) := by decide +kernel
theorem dX5_mostNow_14 : decode cX5_mostNow 14 = .ok (.getfield 7, 3) := by decide +kernel
theorem dX5_mostNow_17 : decode cX5_mostNow 17 = .ok (.iconst 1, 1) := by decide +kernel
theorem dX5_mostNow_18 : decode cX5_mostNow 18 = .ok (.iaload, 1) := by decide +kernel
theorem dX5_mostNow_19 : decode cX5_mostNow 19 = .ok (.invokevirtual 92, 3) := by decide +kernel
theorem dX5_mostNow_22 : decode cX5_mostNow 22 = .ok (.ifCond .eq 7, 3) := by decide +kernel
theorem dX5_mostNow_25 : decode cX5_mostNow 25 = .ok (.iload_n 2, 1) := by decide +kernel
theorem dX5_mostNow_26 : decode cX5_mostNow 26 = .ok (.goto 4, 3) := by decide +kernel
theorem dX5_mostNow_29 : decode cX5_mostNow 29 = .ok (.iload_n 1, 1) := by decide +kernel
theorem dX5_mostNow_30 : decode cX5_mostNow 30 = .ok (.istore_n 1, 1) := by decide +kernel
theorem dX5_mostNow_31 : decode cX5_mostNow 31 = .ok (.iinc 2 1, 3) := by decide +kernel
theorem dX5_mostNow_34 : decode cX5_mostNow 34 = .ok (.goto (-29), 3) := by decide +kernel
theorem dX5_mostNow_37 : decode cX5_mostNow 37 = .ok (.iload_n 1, 1) := by decide +kernel
theorem dX5_mostNow_38 : decode cX5_mostNow 38 = .ok (.ireturn, 1) := by decide +kernel
theorem dX5_leastOf_0 : decode cX5_leastOf 0 = .ok (.iload_n 0, 1) := by decide +kernel
theorem dX5_leastOf_1 : decode cX5_leastOf 1 = .ok (.ifCond .ne 7, 3) := by decide +kernel
theorem dX5_leastOf_4 : decode cX5_leastOf 4 = .ok (.iconst 1, 1) := by decide +kernel
theorem dX5_leastOf_5 : decode cX5_leastOf 5 = .ok (.goto 14, 3) := by decide +kernel
theorem dX5_leastOf_8 : decode cX5_leastOf 8 = .ok (.iload_n 0, 1) := by decide +kernel
theorem dX5_leastOf_9 : decode cX5_leastOf 9 = .ok (.iconst 3, 1) := by decide +kernel
theorem dX5_leastOf_10 : decode cX5_leastOf 10 = .ok (.if_icmp .ne 8, 3) := by decide +kernel
theorem dX5_leastOf_13 : decode cX5_leastOf 13 = .ok (.bipush 20, 2) := by decide +kernel
theorem dX5_leastOf_15 : decode cX5_leastOf 15 = .ok (.goto 4, 3) := by decide +kernel
theorem dX5_leastOf_18 : decode cX5_leastOf 18 = .ok (.iconst 0, 1) := by decide +kernel
theorem dX5_leastOf_19 : decode cX5_leastOf 19 = .ok (.ireturn, 1) := by decide +kernel
theorem dX5_mostOf_0 : decode cX5_mostOf 0 = .ok (.iload_n 0, 1) := by decide +kernel
theorem dX5_mostOf_1 : decode cX5_mostOf 1 = .ok (.ifCond .ne 8, 3) := by decide +kernel
theorem dX5_mostOf_4 : decode cX5_mostOf 4 = .ok (.bipush 30, 2) := by decide +kernel
theorem dX5_mostOf_6 : decode cX5_mostOf 6 = .ok (.goto 36, 3) := by decide +kernel
theorem dX5_mostOf_9 : decode cX5_mostOf 9 = .ok (.iload_n 0, 1) := by decide +kernel
theorem dX5_mostOf_10 : decode cX5_mostOf 10 = .ok (.iconst 3, 1) := by decide +kernel
theorem dX5_mostOf_11 : decode cX5_mostOf 11 = .ok (.if_icmp .ne 9, 3) := by decide +kernel
theorem dX5_mostOf_14 : decode cX5_mostOf 14 = .ok (.sipush 180, 3) := by decide +kernel
theorem dX5_mostOf_17 : decode cX5_mostOf 17 = .ok (.goto 25, 3) := by decide +kernel
theorem dX5_mostOf_20 : decode cX5_mostOf 20 = .ok (.iload_n 0, 1) := by decide +kernel
theorem dX5_mostOf_21 : decode cX5_mostOf 21 = .ok (.iconst 4, 1) := by decide +kernel
theorem dX5_mostOf_22 : decode cX5_mostOf 22 = .ok (.if_icmp .ne 8, 3) := by decide +kernel
theorem dX5_mostOf_25 : decode cX5_mostOf 25 = .ok (.bipush 20, 2) := by decide +kernel
theorem dX5_mostOf_27 : decode cX5_mostOf 27 = .ok (.goto 15, 3) := by decide +kernel
theorem dX5_mostOf_30 : decode cX5_mostOf 30 = .ok (.iload_n 0, 1) := by decide +kernel
theorem dX5_mostOf_31 : decode cX5_mostOf 31 = .ok (.iconst 5, 1) := by decide +kernel
theorem dX5_mostOf_32 : decode cX5_mostOf 32 = .ok (.if_icmp .ne 8, 3) := by decide +kernel
theorem dX5_mostOf_35 : decode cX5_mostOf 35 = .ok (.bipush 99, 2) := by decide +kernel
theorem dX5_mostOf_37 : decode cX5_mostOf 37 = .ok (.goto 5, 3) := by decide +kernel
theorem dX5_mostOf_40 : decode cX5_mostOf 40 = .ok (.bipush 100, 2) := by decide +kernel
theorem dX5_mostOf_42 : decode cX5_mostOf 42 = .ok (.ireturn, 1) := by decide +kernel
theorem dX5_say_0 : decode cX5_say 0 = .ok (.aload_n 0, 1) := by decide +kernel
theorem dX5_say_1 : decode cX5_say 1 = .ok (.getfield 31, 3) := by decide +kernel
theorem dX5_say_4 : decode cX5_say 4 = .ok (.iconst 0, 1) := by decide +kernel
theorem dX5_say_5 : decode cX5_say 5 = .ok (.iload_n 1, 1) := by decide +kernel
theorem dX5_say_6 : decode cX5_say 6 = .ok (.iastore, 1) := by decide +kernel
theorem dX5_say_7 : decode cX5_say 7 = .ok (.aload_n 0, 1) := by decide +kernel
theorem dX5_say_8 : decode cX5_say 8 = .ok (.getfield 31, 3) := by decide +kernel
theorem dX5_say_11 : decode cX5_say 11 = .ok (.iconst 1, 1) := by decide +kernel
theorem dX5_say_12 : decode cX5_say 12 = .ok (.iload_n 2, 1) := by decide +kernel
theorem dX5_say_13 : decode cX5_say 13 = .ok (.iastore, 1) := by decide +kernel
theorem dX5_say_14 : decode cX5_say 14 = .ok (.aload_n 0, 1) := by decide +kernel
theorem dX5_say_15 : decode cX5_say 15 = .ok (.getfield 31, 3) := by decide +kernel
theorem dX5_say_18 : decode cX5_say 18 = .ok (.iconst 2, 1) := by decide +kernel
theorem dX5_say_19 : decode cX5_say 19 = .ok (.iload_n 3, 1) := by decide +kernel
theorem dX5_say_20 : decode cX5_say 20 = .ok (.iastore, 1) := by decide +kernel
theorem dX5_say_21 : decode cX5_say 21 = .ok (.aload_n 0, 1) := by decide +kernel
theorem dX5_say_22 : decode cX5_say 22 = .ok (.getfield 31, 3) := by decide +kernel
theorem dX5_say_25 : decode cX5_say 25 = .ok (.iconst 3, 1) := by decide +kernel
theorem dX5_say_26 : decode cX5_say 26 = .ok (.iload 4, 2) := by decide +kernel
theorem dX5_say_28 : decode cX5_say 28 = .ok (.iastore, 1) := by decide +kernel
theorem dX5_say_29 : decode cX5_say 29 = .ok (.return_, 1) := by decide +kernel
set_option maxRecDepth 20000 in
theorem ggX5_barSpan_X5_in : GoodIn wsX5_barSpan wsX5_in := goodIn_r _ [8] (by decide +kernel) (by decide +kernel)
set_option maxRecDepth 20000 in
theorem gX5_barSpan_X5_in : GoodIn wsX5_barSpan (va_wsS RX5 46 yX5_in wsX5_in) := goodIn_app (goodIn_of _ (by decide +kernel)) ggX5_barSpan_X5_in
theorem dX5_barSpan_0 : decode cX5_barSpan 0 = .ok (.aload_n 0, 1) := by decide +kernel
theorem dX5_barSpan_1 : decode cX5_barSpan 1 = .ok (.getfield 31, 3) := by decide +kernel
theorem dX5_barSpan_4 : decode cX5_barSpan 4 = .ok (.iconst 0, 1) := by decide +kernel
theorem dX5_barSpan_5 : decode cX5_barSpan 5 = .ok (.iaload, 1) := by decide +kernel
theorem dX5_barSpan_6 : decode cX5_barSpan 6 = .ok (.iconst 1, 1) := by decide +kernel
theorem dX5_barSpan_7 : decode cX5_barSpan 7 = .ok (.bipush 30, 2) := by decide +kernel
theorem dX5_barSpan_9 : decode cX5_barSpan 9 = .ok (.invokestatic 46, 3) := by decide +kernel
theorem dX5_barSpan_12 : decode cX5_barSpan 12 = .ok (.ifCond .eq 51, 3) := by decide +kernel
theorem dX5_barSpan_15 : decode cX5_barSpan 15 = .ok (.aload_n 0, 1) := by decide +kernel
theorem dX5_barSpan_16 : decode cX5_barSpan 16 = .ok (.getfield 31, 3) := by decide +kernel
theorem dX5_barSpan_19 : decode cX5_barSpan 19 = .ok (.iconst 1, 1) := by decide +kernel
theorem dX5_barSpan_20 : decode cX5_barSpan 20 = .ok (.iaload, 1) := by decide +kernel
theorem dX5_barSpan_21 : decode cX5_barSpan 21 = .ok (.iconst 0, 1) := by decide +kernel
theorem dX5_barSpan_22 : decode cX5_barSpan 22 = .ok (.iconst 3, 1) := by decide +kernel
theorem dX5_barSpan_23 : decode cX5_barSpan 23 = .ok (.invokestatic 46, 3) := by decide +kernel
theorem dX5_barSpan_26 : decode cX5_barSpan 26 = .ok (.ifCond .eq 37, 3) := by decide +kernel
theorem dX5_barSpan_29 : decode cX5_barSpan 29 = .ok (.aload_n 0, 1) := by decide +kernel
theorem dX5_barSpan_30 : decode cX5_barSpan 30 = .ok (.getfield 31, 3) := by decide +kernel
theorem dX5_barSpan_33 : decode cX5_barSpan 33 = .ok (.iconst 2, 1) := by decide +kernel
theorem dX5_barSpan_34 : decode cX5_barSpan 34 = .ok (.iaload, 1) := by decide +kernel
theorem dX5_barSpan_35 : decode cX5_barSpan 35 = .ok (.bipush (-50), 2) := by decide +kernel
theorem dX5_barSpan_37 : decode cX5_barSpan 37 = .ok (.bipush 50, 2) := by decide +kernel
theorem dX5_barSpan_39 : decode cX5_barSpan 39 = .ok (.invokestatic 46, 3) := by decide +kernel
theorem dX5_barSpan_42 : decode cX5_barSpan 42 = .ok (.ifCond .eq 21, 3) := by decide +kernel
theorem dX5_barSpan_45 : decode cX5_barSpan 45 = .ok (.aload_n 0, 1) := by decide +kernel
theorem dX5_barSpan_46 : decode cX5_barSpan 46 = .ok (.getfield 31, 3) := by decide +kernel
theorem dX5_barSpan_49 : decode cX5_barSpan 49 = .ok (.iconst 3, 1) := by decide +kernel
theorem dX5_barSpan_50 : decode cX5_barSpan 50 = .ok (.iaload, 1) := by decide +kernel
theorem dX5_barSpan_51 : decode cX5_barSpan 51 = .ok (.iconst 0, 1) := by decide +kernel
theorem dX5_barSpan_52 : decode cX5_barSpan 52 = .ok (.iconst 1, 1) := by decide +kernel
theorem dX5_barSpan_53 : decode cX5_barSpan 53 = .ok (.invokestatic 46, 3) := by decide +kernel
theorem dX5_barSpan_56 : decode cX5_barSpan 56 = .ok (.ifCond .eq 7, 3) := by decide +kernel
theorem dX5_barSpan_59 : decode cX5_barSpan 59 = .ok (.iconst 1, 1) := by decide +kernel
theorem dX5_barSpan_60 : decode cX5_barSpan 60 = .ok (.goto 4, 3) := by decide +kernel
theorem dX5_barSpan_63 : decode cX5_barSpan 63 = .ok (.iconst 0, 1) := by decide +kernel
theorem dX5_barSpan_64 : decode cX5_barSpan 64 = .ok (.istore_n 1, 1) := by decide +kernel
theorem dX5_barSpan_65 : decode cX5_barSpan 65 = .ok (.iload_n 1, 1) := by decide +kernel
theorem dX5_barSpan_66 : decode cX5_barSpan 66 = .ok (.ifCond .ne 8, 3) := by decide +kernel
theorem dX5_barSpan_69 : decode cX5_barSpan 69 = .ok (.ldc 37, 2) := by decide +kernel
theorem dX5_barSpan_71 : decode cX5_barSpan 71 = .ok (.goto 20, 3) := by decide +kernel
theorem dX5_barSpan_74 : decode cX5_barSpan 74 = .ok (.aload_n 0, 1) := by decide +kernel
theorem dX5_barSpan_75 : decode cX5_barSpan 75 = .ok (.getfield 7, 3) := by decide +kernel
theorem dX5_barSpan_78 : decode cX5_barSpan 78 = .ok (.iconst 0, 1) := by decide +kernel
theorem dX5_barSpan_79 : decode cX5_barSpan 79 = .ok (.iaload, 1) := by decide +kernel
theorem dX5_barSpan_80 : decode cX5_barSpan 80 = .ok (.bipush 10, 2) := by decide +kernel
theorem dX5_barSpan_82 : decode cX5_barSpan 82 = .ok (.if_icmp .ne 8, 3) := by decide +kernel
theorem dX5_barSpan_85 : decode cX5_barSpan 85 = .ok (.ldc 99, 2) := by decide +kernel
theorem dX5_barSpan_87 : decode cX5_barSpan 87 = .ok (.goto 4, 3) := by decide +kernel
theorem dX5_barSpan_90 : decode cX5_barSpan 90 = .ok (.iconst 0, 1) := by decide +kernel
theorem dX5_barSpan_91 : decode cX5_barSpan 91 = .ok (.ireturn, 1) := by decide +kernel
set_option maxRecDepth 20000 in
theorem ggX5_barMend_X5_isSpan : GoodIn wsX5_barMend wsX5_isSpan := goodIn_r _ [9, 3, 10, 11, 8, 12, 21, 22, 23, 24, 25, 26, 27, 28, 29, 30, 31, 32, 33, 34, 35, 36] (by decide +kernel) (by decide +kernel)
set_option maxRecDepth 20000 in
theorem gX5_barMend_X5_isSpan : GoodIn wsX5_barMend (wsV RX5 100 RX5 yX5_isSpan wsX5_isSpan) := goodIn_app (goodIn_of _ (by decide +kernel)) ggX5_barMend_X5_isSpan
set_option maxRecDepth 20000 in
theorem ggX5_barMend_X5_ofSpan : GoodIn wsX5_barMend wsX5_ofSpan := goodIn_r _ [16, 3, 21, 22, 23, 24, 25, 26, 27, 28, 29, 30, 31, 32, 33, 34, 35, 36] (by decide +kernel) (by decide +kernel)
set_option maxRecDepth 20000 in
theorem gX5_barMend_X5_ofSpan : GoodIn wsX5_barMend (wsV RX5 50 RX5 yX5_ofSpan wsX5_ofSpan) := goodIn_app (goodIn_of _ (by decide +kernel)) ggX5_barMend_X5_ofSpan
set_option maxRecDepth 20000 in
theorem ggX5_barMend_X5_lengthsOf : GoodIn wsX5_barMend wsX5_lengthsOf := goodIn_r _ [20, 13, 14, 15, 8, 16, 3, 21, 22, 23, 24, 25, 26, 27, 28, 29, 30, 31, 32, 33, 34, 35, 36] (by decide +kernel) (by decide +kernel)
set_option maxRecDepth 20000 in
theorem gX5_barMend_X5_lengthsOf : GoodIn wsX5_barMend (wsV RX5 103 RX5 yX5_lengthsOf wsX5_lengthsOf) := goodIn_app (goodIn_of _ (by decide +kernel)) ggX5_barMend_X5_lengthsOf
theorem dX5_barMend_0 : decode cX5_barMend 0 = .ok (.aload_n 0, 1) := by decide +kernel
theorem dX5_barMend_1 : decode cX5_barMend 1 = .ok (.getfield 31, 3) := by decide +kernel
theorem dX5_barMend_4 : decode cX5_barMend 4 = .ok (.iconst 0, 1) := by decide +kernel
theorem dX5_barMend_5 : decode cX5_barMend 5 = .ok (.iaload, 1) := by decide +kernel
theorem dX5_barMend_6 : decode cX5_barMend 6 = .ok (.istore_n 1, 1) := by decide +kernel
theorem dX5_barMend_7 : decode cX5_barMend 7 = .ok (.aload_n 0, 1) := by decide +kernel
theorem dX5_barMend_8 : decode cX5_barMend 8 = .ok (.iload_n 1, 1) := by decide +kernel
theorem dX5_barMend_9 : decode cX5_barMend 9 = .ok (.invokevirtual 100, 3) := by decide +kernel
theorem dX5_barMend_12 : decode cX5_barMend 12 = .ok (.ifCond .ne 6, 3) := by decide +kernel
theorem dX5_barMend_15 : decode cX5_barMend 15 = .ok (.ldc 37, 2) := by decide +kernel
theorem dX5_barMend_17 : decode cX5_barMend 17 = .ok (.ireturn, 1) := by decide +kernel
theorem dX5_barMend_18 : decode cX5_barMend 18 = .ok (.aload_n 0, 1) := by decide +kernel
theorem dX5_barMend_19 : decode cX5_barMend 19 = .ok (.iload_n 1, 1) := by decide +kernel
theorem dX5_barMend_20 : decode cX5_barMend 20 = .ok (.iconst 4, 1) := by decide +kernel
theorem dX5_barMend_21 : decode cX5_barMend 21 = .ok (.invokevirtual 50, 3) := by decide +kernel
theorem dX5_barMend_24 : decode cX5_barMend 24 = .ok (.ifCond .eq 18, 3) := by decide +kernel
theorem dX5_barMend_27 : decode cX5_barMend 27 = .ok (.aload_n 0, 1) := by decide +kernel
theorem dX5_barMend_28 : decode cX5_barMend 28 = .ok (.getfield 7, 3) := by decide +kernel
theorem dX5_barMend_31 : decode cX5_barMend 31 = .ok (.bipush 7, 2) := by decide +kernel
theorem dX5_barMend_33 : decode cX5_barMend 33 = .ok (.iaload, 1) := by decide +kernel
theorem dX5_barMend_34 : decode cX5_barMend 34 = .ok (.aload_n 0, 1) := by decide +kernel
theorem dX5_barMend_35 : decode cX5_barMend 35 = .ok (.iload_n 1, 1) := by decide +kernel
theorem dX5_barMend_36 : decode cX5_barMend 36 = .ok (.invokevirtual 103, 3) := by decide +kernel
theorem dX5_barMend_39 : decode cX5_barMend 39 = .ok (.if_icmp .ge 8, 3) := by decide +kernel
theorem dX5_barMend_42 : decode cX5_barMend 42 = .ok (.ldc 106, 2) := by decide +kernel
theorem dX5_barMend_44 : decode cX5_barMend 44 = .ok (.goto 4, 3) := by decide +kernel
theorem dX5_barMend_47 : decode cX5_barMend 47 = .ok (.iconst 0, 1) := by decide +kernel
theorem dX5_barMend_48 : decode cX5_barMend 48 = .ok (.ireturn, 1) := by decide +kernel
set_option maxRecDepth 20000 in
theorem ggX5_barOf_X5_barSpan : GoodIn wsX5_barOf wsX5_barSpan := goodIn_r _ [9, 1, 2, 3, 10, 11, 12, 8, 13, 40, 41, 42, 43, 44, 45, 46, 47, 48, 49, 50, 51, 52, 53, 54, 55] (by decide +kernel) (by decide +kernel)
set_option maxRecDepth 20000 in
theorem gX5_barOf_X5_barSpan : GoodIn wsX5_barOf (wsV RX5 107 RX5 yX5_barSpan wsX5_barSpan) := goodIn_app (goodIn_of _ (by decide +kernel)) ggX5_barOf_X5_barSpan
set_option maxRecDepth 20000 in
theorem ggX5_barOf_X5_in : GoodIn wsX5_barOf wsX5_in := goodIn_r _ [13] (by decide +kernel) (by decide +kernel)
set_option maxRecDepth 20000 in
theorem gX5_barOf_X5_in : GoodIn wsX5_barOf (va_wsS RX5 46 yX5_in wsX5_in) := goodIn_app (goodIn_of _ (by decide +kernel)) ggX5_barOf_X5_in
set_option maxRecDepth 20000 in
theorem ggX5_barOf_X5_leastOf : GoodIn wsX5_barOf wsX5_leastOf := goodIn_r _ [16] (by decide +kernel) (by decide +kernel)
set_option maxRecDepth 20000 in
theorem gX5_barOf_X5_leastOf : GoodIn wsX5_barOf (va_wsS RX5 111 yX5_leastOf wsX5_leastOf) := goodIn_app (goodIn_of _ (by decide +kernel)) ggX5_barOf_X5_leastOf
set_option maxRecDepth 20000 in
theorem ggX5_barOf_X5_mostOf : GoodIn wsX5_barOf wsX5_mostOf := goodIn_r _ [19] (by decide +kernel) (by decide +kernel)
set_option maxRecDepth 20000 in
theorem gX5_barOf_X5_mostOf : GoodIn wsX5_barOf (va_wsS RX5 114 yX5_mostOf wsX5_mostOf) := goodIn_app (goodIn_of _ (by decide +kernel)) ggX5_barOf_X5_mostOf
set_option maxRecDepth 20000 in
theorem ggX5_barOf_X5_isNode : GoodIn wsX5_barOf wsX5_isNode := goodIn_r _ [23, 3, 11, 12, 8, 13, 40, 41, 42, 43, 44, 45, 46, 47, 48, 49, 50, 51, 52, 53, 54, 55] (by decide +kernel) (by decide +kernel)
set_option maxRecDepth 20000 in
theorem gX5_barOf_X5_isNode : GoodIn wsX5_barOf (wsV RX5 117 RX5 yX5_isNode wsX5_isNode) := goodIn_app (goodIn_of _ (by decide +kernel)) ggX5_barOf_X5_isNode
set_option maxRecDepth 20000 in
theorem ggX5_barOf_X5_isSpan : GoodIn wsX5_barOf wsX5_isSpan := goodIn_r _ [27, 3, 11, 12, 8, 13, 40, 41, 42, 43, 44, 45, 46, 47, 48, 49, 50, 51, 52, 53, 54, 55] (by decide +kernel) (by decide +kernel)
set_option maxRecDepth 20000 in
theorem gX5_barOf_X5_isSpan : GoodIn wsX5_barOf (wsV RX5 100 RX5 yX5_isSpan wsX5_isSpan) := goodIn_app (goodIn_of _ (by decide +kernel)) ggX5_barOf_X5_isSpan
set_option maxRecDepth 20000 in
theorem ggX5_barOf_X5_barMend : GoodIn wsX5_barOf wsX5_barMend := goodIn_r _ [31, 1, 2, 3, 4, 24, 25, 26, 8, 27, 11, 12, 13, 32, 33, 34, 35, 36, 37, 38, 39, 40, 41, 42, 43, 44, 45, 46, 47, 48, 49, 50, 51, 52, 53, 54, 55] (by decide +kernel) (by decide +kernel)
set_option maxRecDepth 20000 in
theorem gX5_barOf_X5_barMend : GoodIn wsX5_barOf (wsV RX5 120 RX5 yX5_barMend wsX5_barMend) := goodIn_app (goodIn_of _ (by decide +kernel)) ggX5_barOf_X5_barMend
theorem dX5_barOf_0 : decode cX5_barOf 0 = .ok (.iload_n 1, 1) := by decide +kernel
theorem dX5_barOf_1 : decode cX5_barOf 1 = .ok (.lookupswitch 152 #[(104, 51), (107, 56), (109, 147), (112, 107), (120, 127)], 51) := by decide +kernel
theorem dX5_barOf_52 : decode cX5_barOf 52 = .ok (.aload_n 0, 1) := by decide +kernel
theorem dX5_barOf_53 : decode cX5_barOf 53 = .ok (.invokevirtual 107, 3) := by decide +kernel
theorem dX5_barOf_56 : decode cX5_barOf 56 = .ok (.ireturn, 1) := by decide +kernel
theorem dX5_barOf_57 : decode cX5_barOf 57 = .ok (.aload_n 0, 1) := by decide +kernel
theorem dX5_barOf_58 : decode cX5_barOf 58 = .ok (.getfield 31, 3) := by decide +kernel
theorem dX5_barOf_61 : decode cX5_barOf 61 = .ok (.iconst 0, 1) := by decide +kernel
theorem dX5_barOf_62 : decode cX5_barOf 62 = .ok (.iaload, 1) := by decide +kernel
theorem dX5_barOf_63 : decode cX5_barOf 63 = .ok (.iconst 0, 1) := by decide +kernel
theorem dX5_barOf_64 : decode cX5_barOf 64 = .ok (.iconst 5, 1) := by decide +kernel
theorem dX5_barOf_65 : decode cX5_barOf 65 = .ok (.invokestatic 46, 3) := by decide +kernel
theorem dX5_barOf_68 : decode cX5_barOf 68 = .ok (.ifCond .eq 37, 3) := by decide +kernel
theorem dX5_barOf_71 : decode cX5_barOf 71 = .ok (.aload_n 0, 1) := by decide +kernel
theorem dX5_barOf_72 : decode cX5_barOf 72 = .ok (.getfield 31, 3) := by decide +kernel
theorem dX5_barOf_75 : decode cX5_barOf 75 = .ok (.iconst 1, 1) := by decide +kernel
theorem dX5_barOf_76 : decode cX5_barOf 76 = .ok (.iaload, 1) := by decide +kernel
theorem dX5_barOf_77 : decode cX5_barOf 77 = .ok (.aload_n 0, 1) := by decide +kernel
theorem dX5_barOf_78 : decode cX5_barOf 78 = .ok (.getfield 31, 3) := by decide +kernel
theorem dX5_barOf_81 : decode cX5_barOf 81 = .ok (.iconst 0, 1) := by decide +kernel
theorem dX5_barOf_82 : decode cX5_barOf 82 = .ok (.iaload, 1) := by decide +kernel
theorem dX5_barOf_83 : decode cX5_barOf 83 = .ok (.invokestatic 111, 3) := by decide +kernel
theorem dX5_barOf_86 : decode cX5_barOf 86 = .ok (.aload_n 0, 1) := by decide +kernel
theorem dX5_barOf_87 : decode cX5_barOf 87 = .ok (.getfield 31, 3) := by decide +kernel
theorem dX5_barOf_90 : decode cX5_barOf 90 = .ok (.iconst 0, 1) := by decide +kernel
theorem dX5_barOf_91 : decode cX5_barOf 91 = .ok (.iaload, 1) := by decide +kernel
theorem dX5_barOf_92 : decode cX5_barOf 92 = .ok (.invokestatic 114, 3) := by decide +kernel
theorem dX5_barOf_95 : decode cX5_barOf 95 = .ok (.invokestatic 46, 3) := by decide +kernel
theorem dX5_barOf_98 : decode cX5_barOf 98 = .ok (.ifCond .eq 7, 3) := by decide +kernel
theorem dX5_barOf_101 : decode cX5_barOf 101 = .ok (.iconst 0, 1) := by decide +kernel
theorem dX5_barOf_102 : decode cX5_barOf 102 = .ok (.goto 5, 3) := by decide +kernel
theorem dX5_barOf_105 : decode cX5_barOf 105 = .ok (.ldc 37, 2) := by decide +kernel
theorem dX5_barOf_107 : decode cX5_barOf 107 = .ok (.ireturn, 1) := by decide +kernel
theorem dX5_barOf_108 : decode cX5_barOf 108 = .ok (.aload_n 0, 1) := by decide +kernel
theorem dX5_barOf_109 : decode cX5_barOf 109 = .ok (.aload_n 0, 1) := by decide +kernel
theorem dX5_barOf_110 : decode cX5_barOf 110 = .ok (.getfield 31, 3) := by decide +kernel
theorem dX5_barOf_113 : decode cX5_barOf 113 = .ok (.iconst 0, 1) := by decide +kernel
theorem dX5_barOf_114 : decode cX5_barOf 114 = .ok (.iaload, 1) := by decide +kernel
theorem dX5_barOf_115 : decode cX5_barOf 115 = .ok (.invokevirtual 117, 3) := by decide +kernel
theorem dX5_barOf_118 : decode cX5_barOf 118 = .ok (.ifCond .eq 7, 3) := by decide +kernel
theorem dX5_barOf_121 : decode cX5_barOf 121 = .ok (.iconst 0, 1) := by decide +kernel
theorem dX5_barOf_122 : decode cX5_barOf 122 = .ok (.goto 5, 3) := by decide +kernel
theorem dX5_barOf_125 : decode cX5_barOf 125 = .ok (.ldc 37, 2) := by decide +kernel
theorem dX5_barOf_127 : decode cX5_barOf 127 = .ok (.ireturn, 1) := by decide +kernel
theorem dX5_barOf_128 : decode cX5_barOf 128 = .ok (.aload_n 0, 1) := by decide +kernel
theorem dX5_barOf_129 : decode cX5_barOf 129 = .ok (.aload_n 0, 1) := by decide +kernel
theorem dX5_barOf_130 : decode cX5_barOf 130 = .ok (.getfield 31, 3) := by decide +kernel
theorem dX5_barOf_133 : decode cX5_barOf 133 = .ok (.iconst 0, 1) := by decide +kernel
theorem dX5_barOf_134 : decode cX5_barOf 134 = .ok (.iaload, 1) := by decide +kernel
theorem dX5_barOf_135 : decode cX5_barOf 135 = .ok (.invokevirtual 100, 3) := by decide +kernel
theorem dX5_barOf_138 : decode cX5_barOf 138 = .ok (.ifCond .eq 7, 3) := by decide +kernel
theorem dX5_barOf_141 : decode cX5_barOf 141 = .ok (.iconst 0, 1) := by decide +kernel
theorem dX5_barOf_142 : decode cX5_barOf 142 = .ok (.goto 5, 3) := by decide +kernel
theorem dX5_barOf_145 : decode cX5_barOf 145 = .ok (.ldc 37, 2) := by decide +kernel
theorem dX5_barOf_147 : decode cX5_barOf 147 = .ok (.ireturn, 1) := by decide +kernel
theorem dX5_barOf_148 : decode cX5_barOf 148 = .ok (.aload_n 0, 1) := by decide +kernel
theorem dX5_barOf_149 : decode cX5_barOf 149 = .ok (.invokevirtual 120, 3) := by decide +kernel
theorem dX5_barOf_152 : decode cX5_barOf 152 = .ok (.ireturn, 1) := by decide +kernel
theorem dX5_barOf_153 : decode cX5_barOf 153 = .ok (.aload_n 0, 1) := by decide +kernel
theorem dX5_barOf_154 : decode cX5_barOf 154 = .ok (.getfield 7, 3) := by decide +kernel
theorem dX5_barOf_157 : decode cX5_barOf 157 = .ok (.iconst 0, 1) := by decide +kernel
theorem dX5_barOf_158 : decode cX5_barOf 158 = .ok (.iaload, 1) := by decide +kernel
theorem dX5_barOf_159 : decode cX5_barOf 159 = .ok (.ifCond .ne 8, 3) := by decide +kernel
theorem dX5_barOf_162 : decode cX5_barOf 162 = .ok (.ldc 106, 2) := by decide +kernel
theorem dX5_barOf_164 : decode cX5_barOf 164 = .ok (.goto 4, 3) := by decide +kernel
theorem dX5_barOf_167 : decode cX5_barOf 167 = .ok (.iconst 0, 1) := by decide +kernel
theorem dX5_barOf_168 : decode cX5_barOf 168 = .ok (.ireturn, 1) := by decide +kernel
theorem dX5_doSpan_0 : decode cX5_doSpan 0 = .ok (.bipush 8, 2) := by decide +kernel
theorem dX5_doSpan_2 : decode cX5_doSpan 2 = .ok (.iconst 5, 1) := by decide +kernel
theorem dX5_doSpan_3 : decode cX5_doSpan 3 = .ok (.aload_n 0, 1) := by decide +kernel
theorem dX5_doSpan_4 : decode cX5_doSpan 4 = .ok (.getfield 7, 3) := by decide +kernel
theorem dX5_doSpan_7 : decode cX5_doSpan 7 = .ok (.iconst 0, 1) := by decide +kernel
theorem dX5_doSpan_8 : decode cX5_doSpan 8 = .ok (.iaload, 1) := by decide +kernel
theorem dX5_doSpan_9 : decode cX5_doSpan 9 = .ok (.imul, 1) := by decide +kernel
theorem dX5_doSpan_10 : decode cX5_doSpan 10 = .ok (.iadd, 1) := by decide +kernel
theorem dX5_doSpan_11 : decode cX5_doSpan 11 = .ok (.istore_n 1, 1) := by decide +kernel
theorem dX5_doSpan_12 : decode cX5_doSpan 12 = .ok (.iconst 0, 1) := by decide +kernel
theorem dX5_doSpan_13 : decode cX5_doSpan 13 = .ok (.istore_n 2, 1) := by decide +kernel
theorem dX5_doSpan_14 : decode cX5_doSpan 14 = .ok (.iload_n 2, 1) := by decide +kernel
theorem dX5_doSpan_15 : decode cX5_doSpan 15 = .ok (.iconst 5, 1) := by decide +kernel
theorem dX5_doSpan_16 : decode cX5_doSpan 16 = .ok (.if_icmp .ge 32, 3) := by decide +kernel
theorem dX5_doSpan_19 : decode cX5_doSpan 19 = .ok (.aload_n 0, 1) := by decide +kernel
theorem dX5_doSpan_20 : decode cX5_doSpan 20 = .ok (.getfield 7, 3) := by decide +kernel
theorem dX5_doSpan_23 : decode cX5_doSpan 23 = .ok (.iload_n 1, 1) := by decide +kernel
theorem dX5_doSpan_24 : decode cX5_doSpan 24 = .ok (.iload_n 2, 1) := by decide +kernel
theorem dX5_doSpan_25 : decode cX5_doSpan 25 = .ok (.iadd, 1) := by decide +kernel
theorem dX5_doSpan_26 : decode cX5_doSpan 26 = .ok (.iload_n 2, 1) := by decide +kernel
theorem dX5_doSpan_27 : decode cX5_doSpan 27 = .ok (.iconst 4, 1) := by decide +kernel
theorem dX5_doSpan_28 : decode cX5_doSpan 28 = .ok (.if_icmp .ge 12, 3) := by decide +kernel
theorem dX5_doSpan_31 : decode cX5_doSpan 31 = .ok (.aload_n 0, 1) := by decide +kernel
theorem dX5_doSpan_32 : decode cX5_doSpan 32 = .ok (.getfield 31, 3) := by decide +kernel
theorem dX5_doSpan_35 : decode cX5_doSpan 35 = .ok (.iload_n 2, 1) := by decide +kernel
theorem dX5_doSpan_36 : decode cX5_doSpan 36 = .ok (.iaload, 1) := by decide +kernel
theorem dX5_doSpan_37 : decode cX5_doSpan 37 = .ok (.goto 4, 3) := by decide +kernel
theorem dX5_doSpan_40 : decode cX5_doSpan 40 = .ok (.iconst 0, 1) := by decide +kernel
theorem dX5_doSpan_41 : decode cX5_doSpan 41 = .ok (.iastore, 1) := by decide +kernel
theorem dX5_doSpan_42 : decode cX5_doSpan 42 = .ok (.iinc 2 1, 3) := by decide +kernel
theorem dX5_doSpan_45 : decode cX5_doSpan 45 = .ok (.goto (-31), 3) := by decide +kernel
theorem dX5_doSpan_48 : decode cX5_doSpan 48 = .ok (.aload_n 0, 1) := by decide +kernel
theorem dX5_doSpan_49 : decode cX5_doSpan 49 = .ok (.getfield 7, 3) := by decide +kernel
theorem dX5_doSpan_52 : decode cX5_doSpan 52 = .ok (.iconst 0, 1) := by decide +kernel
theorem dX5_doSpan_53 : decode cX5_doSpan 53 = .ok (.dup2, 1) := by decide +kernel
theorem dX5_doSpan_54 : decode cX5_doSpan 54 = .ok (.iaload, 1) := by decide +kernel
theorem dX5_doSpan_55 : decode cX5_doSpan 55 = .ok (.iconst 1, 1) := by decide +kernel
theorem dX5_doSpan_56 : decode cX5_doSpan 56 = .ok (.iadd, 1) := by decide +kernel
theorem dX5_doSpan_57 : decode cX5_doSpan 57 = .ok (.iastore, 1) := by decide +kernel
theorem dX5_doSpan_58 : decode cX5_doSpan 58 = .ok (.aload_n 0, 1) := by decide +kernel
theorem dX5_doSpan_59 : decode cX5_doSpan 59 = .ok (.getfield 7, 3) := by decide +kernel
theorem dX5_doSpan_62 : decode cX5_doSpan 62 = .ok (.iconst 0, 1) := by decide +kernel
theorem dX5_doSpan_63 : decode cX5_doSpan 63 = .ok (.iaload, 1) := by decide +kernel
theorem dX5_doSpan_64 : decode cX5_doSpan 64 = .ok (.iconst 1, 1) := by decide +kernel
theorem dX5_doSpan_65 : decode cX5_doSpan 65 = .ok (.isub, 1) := by decide +kernel
theorem dX5_doSpan_66 : decode cX5_doSpan 66 = .ok (.ireturn, 1) := by decide +kernel
set_option maxRecDepth 20000 in
theorem ggX5_act_X5_doSpan : GoodIn wsX5_act wsX5_doSpan := goodIn_r _ [7, 2, 1, 19, 20, 21, 22, 23, 24, 25, 26, 27, 28, 29, 30, 31, 32, 33, 34] (by decide +kernel) (by decide +kernel)
set_option maxRecDepth 20000 in
theorem gX5_act_X5_doSpan : GoodIn wsX5_act (wsV RX5 123 RX5 yX5_doSpan wsX5_doSpan) := goodIn_app (goodIn_of _ (by decide +kernel)) ggX5_act_X5_doSpan
set_option maxRecDepth 20000 in
theorem ggX5_act_X5_ones : GoodIn wsX5_act wsX5_ones := goodIn_r _ [10] (by decide +kernel) (by decide +kernel)
