set_option maxRecDepth 20000 in
theorem gX5_act_X5_ones : GoodIn wsX5_act (va_wsS RX5 89 yX5_ones wsX5_ones) := goodIn_app (goodIn_of _ (by decide +kernel)) ggX5_act_X5_ones
set_option maxRecDepth 20000 in
theorem ggX5_act_X5_ofSpan : GoodIn wsX5_act wsX5_ofSpan := goodIn_r _ [14, 2, 19, 20, 21, 22, 23, 24, 25, 26, 27, 28, 29, 30, 31, 32, 33, 34] (by decide +kernel) (by decide +kernel)
set_option maxRecDepth 20000 in
theorem gX5_act_X5_ofSpan : GoodIn wsX5_act (wsV RX5 50 RX5 yX5_ofSpan wsX5_ofSpan) := goodIn_app (goodIn_of _ (by decide +kernel)) ggX5_act_X5_ofSpan
set_option maxRecDepth 20000 in
theorem ggX5_act_X5_lengthsOf : GoodIn wsX5_act wsX5_lengthsOf := goodIn_r _ [18, 11, 12, 13, 6, 14, 2, 19, 20, 21, 22, 23, 24, 25, 26, 27, 28, 29, 30, 31, 32, 33, 34] (by decide +kernel) (by decide +kernel)
set_option maxRecDepth 20000 in
theorem gX5_act_X5_lengthsOf : GoodIn wsX5_act (wsV RX5 103 RX5 yX5_lengthsOf wsX5_lengthsOf) := goodIn_app (goodIn_of _ (by decide +kernel)) ggX5_act_X5_lengthsOf
theorem dX5_act_0 : decode cX5_act 0 = .ok (.aload_n 0, 1) := by decide +kernel
theorem dX5_act_1 : decode cX5_act 1 = .ok (.getfield 31, 3) := by decide +kernel
theorem dX5_act_4 : decode cX5_act 4 = .ok (.iconst 0, 1) := by decide +kernel
theorem dX5_act_5 : decode cX5_act 5 = .ok (.iaload, 1) := by decide +kernel
theorem dX5_act_6 : decode cX5_act 6 = .ok (.istore_n 2, 1) := by decide +kernel
theorem dX5_act_7 : decode cX5_act 7 = .ok (.iload_n 1, 1) := by decide +kernel
theorem dX5_act_8 : decode cX5_act 8 = .ok (.lookupswitch 166 #[(104, 52), (107, 57), (109, 129), (112, 82), (120, 104)], 52) := by decide +kernel
theorem dX5_act_60 : decode cX5_act 60 = .ok (.aload_n 0, 1) := by decide +kernel
theorem dX5_act_61 : decode cX5_act 61 = .ok (.invokevirtual 123, 3) := by decide +kernel
theorem dX5_act_64 : decode cX5_act 64 = .ok (.ireturn, 1) := by decide +kernel
theorem dX5_act_65 : decode cX5_act 65 = .ok (.aload_n 0, 1) := by decide +kernel
theorem dX5_act_66 : decode cX5_act 66 = .ok (.getfield 7, 3) := by decide +kernel
theorem dX5_act_69 : decode cX5_act 69 = .ok (.iconst 2, 1) := by decide +kernel
theorem dX5_act_70 : decode cX5_act 70 = .ok (.iload_n 2, 1) := by decide +kernel
theorem dX5_act_71 : decode cX5_act 71 = .ok (.iadd, 1) := by decide +kernel
theorem dX5_act_72 : decode cX5_act 72 = .ok (.iaload, 1) := by decide +kernel
theorem dX5_act_73 : decode cX5_act 73 = .ok (.istore_n 3, 1) := by decide +kernel
theorem dX5_act_74 : decode cX5_act 74 = .ok (.aload_n 0, 1) := by decide +kernel
theorem dX5_act_75 : decode cX5_act 75 = .ok (.getfield 7, 3) := by decide +kernel
theorem dX5_act_78 : decode cX5_act 78 = .ok (.iconst 2, 1) := by decide +kernel
theorem dX5_act_79 : decode cX5_act 79 = .ok (.iload_n 2, 1) := by decide +kernel
theorem dX5_act_80 : decode cX5_act 80 = .ok (.iadd, 1) := by decide +kernel
theorem dX5_act_81 : decode cX5_act 81 = .ok (.aload_n 0, 1) := by decide +kernel
theorem dX5_act_82 : decode cX5_act 82 = .ok (.getfield 31, 3) := by decide +kernel
theorem dX5_act_85 : decode cX5_act 85 = .ok (.iconst 1, 1) := by decide +kernel
theorem dX5_act_86 : decode cX5_act 86 = .ok (.iaload, 1) := by decide +kernel
theorem dX5_act_87 : decode cX5_act 87 = .ok (.iastore, 1) := by decide +kernel
theorem dX5_act_88 : decode cX5_act 88 = .ok (.iload_n 3, 1) := by decide +kernel
theorem dX5_act_89 : decode cX5_act 89 = .ok (.ireturn, 1) := by decide +kernel
theorem dX5_act_90 : decode cX5_act 90 = .ok (.aload_n 0, 1) := by decide +kernel
theorem dX5_act_91 : decode cX5_act 91 = .ok (.getfield 7, 3) := by decide +kernel
theorem dX5_act_94 : decode cX5_act 94 = .ok (.iconst 1, 1) := by decide +kernel
theorem dX5_act_95 : decode cX5_act 95 = .ok (.dup2, 1) := by decide +kernel
theorem dX5_act_96 : decode cX5_act 96 = .ok (.iaload, 1) := by decide +kernel
theorem dX5_act_97 : decode cX5_act 97 = .ok (.iconst 1, 1) := by decide +kernel
theorem dX5_act_98 : decode cX5_act 98 = .ok (.iload_n 2, 1) := by decide +kernel
theorem dX5_act_99 : decode cX5_act 99 = .ok (.ishl, 1) := by decide +kernel
theorem dX5_act_100 : decode cX5_act 100 = .ok (.ixor, 1) := by decide +kernel
theorem dX5_act_101 : decode cX5_act 101 = .ok (.iastore, 1) := by decide +kernel
theorem dX5_act_102 : decode cX5_act 102 = .ok (.aload_n 0, 1) := by decide +kernel
theorem dX5_act_103 : decode cX5_act 103 = .ok (.getfield 7, 3) := by decide +kernel
theorem dX5_act_106 : decode cX5_act 106 = .ok (.iconst 1, 1) := by decide +kernel
theorem dX5_act_107 : decode cX5_act 107 = .ok (.iaload, 1) := by decide +kernel
theorem dX5_act_108 : decode cX5_act 108 = .ok (.invokestatic 89, 3) := by decide +kernel
theorem dX5_act_111 : decode cX5_act 111 = .ok (.ireturn, 1) := by decide +kernel
theorem dX5_act_112 : decode cX5_act 112 = .ok (.aload_n 0, 1) := by decide +kernel
theorem dX5_act_113 : decode cX5_act 113 = .ok (.iload_n 2, 1) := by decide +kernel
theorem dX5_act_114 : decode cX5_act 114 = .ok (.iconst 4, 1) := by decide +kernel
theorem dX5_act_115 : decode cX5_act 115 = .ok (.invokevirtual 50, 3) := by decide +kernel
theorem dX5_act_118 : decode cX5_act 118 = .ok (.istore_n 3, 1) := by decide +kernel
theorem dX5_act_119 : decode cX5_act 119 = .ok (.aload_n 0, 1) := by decide +kernel
theorem dX5_act_120 : decode cX5_act 120 = .ok (.getfield 7, 3) := by decide +kernel
theorem dX5_act_123 : decode cX5_act 123 = .ok (.bipush 8, 2) := by decide +kernel
theorem dX5_act_125 : decode cX5_act 125 = .ok (.iconst 5, 1) := by decide +kernel
theorem dX5_act_126 : decode cX5_act 126 = .ok (.iload_n 2, 1) := by decide +kernel
theorem dX5_act_127 : decode cX5_act 127 = .ok (.imul, 1) := by decide +kernel
theorem dX5_act_128 : decode cX5_act 128 = .ok (.iadd, 1) := by decide +kernel
theorem dX5_act_129 : decode cX5_act 129 = .ok (.iconst 4, 1) := by decide +kernel
theorem dX5_act_130 : decode cX5_act 130 = .ok (.iadd, 1) := by decide +kernel
theorem dX5_act_131 : decode cX5_act 131 = .ok (.iconst 1, 1) := by decide +kernel
theorem dX5_act_132 : decode cX5_act 132 = .ok (.iastore, 1) := by decide +kernel
theorem dX5_act_133 : decode cX5_act 133 = .ok (.iconst 1, 1) := by decide +kernel
theorem dX5_act_134 : decode cX5_act 134 = .ok (.iload_n 3, 1) := by decide +kernel
theorem dX5_act_135 : decode cX5_act 135 = .ok (.isub, 1) := by decide +kernel
theorem dX5_act_136 : decode cX5_act 136 = .ok (.ireturn, 1) := by decide +kernel
theorem dX5_act_137 : decode cX5_act 137 = .ok (.aload_n 0, 1) := by decide +kernel
theorem dX5_act_138 : decode cX5_act 138 = .ok (.getfield 7, 3) := by decide +kernel
theorem dX5_act_141 : decode cX5_act 141 = .ok (.bipush 7, 2) := by decide +kernel
theorem dX5_act_143 : decode cX5_act 143 = .ok (.dup2, 1) := by decide +kernel
theorem dX5_act_144 : decode cX5_act 144 = .ok (.iaload, 1) := by decide +kernel
theorem dX5_act_145 : decode cX5_act 145 = .ok (.aload_n 0, 1) := by decide +kernel
theorem dX5_act_146 : decode cX5_act 146 = .ok (.iload_n 2, 1) := by decide +kernel
theorem dX5_act_147 : decode cX5_act 147 = .ok (.invokevirtual 103, 3) := by decide +kernel
theorem dX5_act_150 : decode cX5_act 150 = .ok (.isub, 1) := by decide +kernel
theorem dX5_act_151 : decode cX5_act 151 = .ok (.iastore, 1) := by decide +kernel
theorem dX5_act_152 : decode cX5_act 152 = .ok (.aload_n 0, 1) := by decide +kernel
theorem dX5_act_153 : decode cX5_act 153 = .ok (.getfield 7, 3) := by decide +kernel
theorem dX5_act_156 : decode cX5_act 156 = .ok (.bipush 8, 2) := by decide +kernel
theorem dX5_act_158 : decode cX5_act 158 = .ok (.iconst 5, 1) := by decide +kernel
theorem dX5_act_159 : decode cX5_act 159 = .ok (.iload_n 2, 1) := by decide +kernel
theorem dX5_act_160 : decode cX5_act 160 = .ok (.imul, 1) := by decide +kernel
theorem dX5_act_161 : decode cX5_act 161 = .ok (.iadd, 1) := by decide +kernel
theorem dX5_act_162 : decode cX5_act 162 = .ok (.iconst 4, 1) := by decide +kernel
theorem dX5_act_163 : decode cX5_act 163 = .ok (.iadd, 1) := by decide +kernel
theorem dX5_act_164 : decode cX5_act 164 = .ok (.iconst 0, 1) := by decide +kernel
theorem dX5_act_165 : decode cX5_act 165 = .ok (.iastore, 1) := by decide +kernel
theorem dX5_act_166 : decode cX5_act 166 = .ok (.aload_n 0, 1) := by decide +kernel
theorem dX5_act_167 : decode cX5_act 167 = .ok (.getfield 7, 3) := by decide +kernel
theorem dX5_act_170 : decode cX5_act 170 = .ok (.bipush 7, 2) := by decide +kernel
theorem dX5_act_172 : decode cX5_act 172 = .ok (.iaload, 1) := by decide +kernel
theorem dX5_act_173 : decode cX5_act 173 = .ok (.ireturn, 1) := by decide +kernel
theorem dX5_act_174 : decode cX5_act 174 = .ok (.aload_n 0, 1) := by decide +kernel
theorem dX5_act_175 : decode cX5_act 175 = .ok (.getfield 7, 3) := by decide +kernel
theorem dX5_act_178 : decode cX5_act 178 = .ok (.iconst 1, 1) := by decide +kernel
theorem dX5_act_179 : decode cX5_act 179 = .ok (.dup2, 1) := by decide +kernel
theorem dX5_act_180 : decode cX5_act 180 = .ok (.iaload, 1) := by decide +kernel
theorem dX5_act_181 : decode cX5_act 181 = .ok (.iconst 1, 1) := by decide +kernel
theorem dX5_act_182 : decode cX5_act 182 = .ok (.aload_n 0, 1) := by decide +kernel
theorem dX5_act_183 : decode cX5_act 183 = .ok (.getfield 7, 3) := by decide +kernel
theorem dX5_act_186 : decode cX5_act 186 = .ok (.iconst 0, 1) := by decide +kernel
theorem dX5_act_187 : decode cX5_act 187 = .ok (.iaload, 1) := by decide +kernel
theorem dX5_act_188 : decode cX5_act 188 = .ok (.ishl, 1) := by decide +kernel
theorem dX5_act_189 : decode cX5_act 189 = .ok (.iconst (-1), 1) := by decide +kernel
theorem dX5_act_190 : decode cX5_act 190 = .ok (.ixor, 1) := by decide +kernel
theorem dX5_act_191 : decode cX5_act 191 = .ok (.iand, 1) := by decide +kernel
theorem dX5_act_192 : decode cX5_act 192 = .ok (.iastore, 1) := by decide +kernel
theorem dX5_act_193 : decode cX5_act 193 = .ok (.aload_n 0, 1) := by decide +kernel
theorem dX5_act_194 : decode cX5_act 194 = .ok (.getfield 7, 3) := by decide +kernel
theorem dX5_act_197 : decode cX5_act 197 = .ok (.iconst 0, 1) := by decide +kernel
theorem dX5_act_198 : decode cX5_act 198 = .ok (.dup2, 1) := by decide +kernel
theorem dX5_act_199 : decode cX5_act 199 = .ok (.iaload, 1) := by decide +kernel
theorem dX5_act_200 : decode cX5_act 200 = .ok (.iconst 1, 1) := by decide +kernel
theorem dX5_act_201 : decode cX5_act 201 = .ok (.isub, 1) := by decide +kernel
theorem dX5_act_202 : decode cX5_act 202 = .ok (.iastore, 1) := by decide +kernel
theorem dX5_act_203 : decode cX5_act 203 = .ok (.aload_n 0, 1) := by decide +kernel
theorem dX5_act_204 : decode cX5_act 204 = .ok (.getfield 7, 3) := by decide +kernel
theorem dX5_act_207 : decode cX5_act 207 = .ok (.iconst 0, 1) := by decide +kernel
theorem dX5_act_208 : decode cX5_act 208 = .ok (.iaload, 1) := by decide +kernel
theorem dX5_act_209 : decode cX5_act 209 = .ok (.ireturn, 1) := by decide +kernel
set_option maxRecDepth 20000 in
theorem ggX5_call_X5_barOf : GoodIn wsX5_call wsX5_barOf := goodIn_r _ [5, 6, 7, 8, 9, 10, 11, 12, 4, 13, 14, 15, 16, 17, 18, 19, 20, 21, 22, 23, 24, 25, 26, 27, 28, 29, 30, 31, 32, 33, 34, 35, 36, 37, 38, 39, 40, 41, 42, 43, 69, 70, 71, 72, 73, 74, 75, 76, 77, 78, 79, 80, 81, 82, 83, 84] (by decide +kernel) (by decide +kernel)
set_option maxRecDepth 20000 in
theorem gX5_call_X5_barOf : GoodIn wsX5_call (wsV RX5 126 RX5 yX5_barOf wsX5_barOf) := goodIn_app (goodIn_of _ (by decide +kernel)) ggX5_call_X5_barOf
set_option maxRecDepth 20000 in
theorem ggX5_call_X5_refuse : GoodIn wsX5_call wsX5_refuse := goodIn_r _ [47, 48, 7, 69, 70, 71, 72, 73, 74, 75, 76, 77, 78, 79, 80, 81, 82, 83, 84] (by decide +kernel) (by decide +kernel)
set_option maxRecDepth 20000 in
theorem gX5_call_X5_refuse : GoodIn wsX5_call (wsV RX5 129 RX5 yX5_refuse wsX5_refuse) := goodIn_app (goodIn_of _ (by decide +kernel)) ggX5_call_X5_refuse
set_option maxRecDepth 20000 in
theorem ggX5_call_X5_note : GoodIn wsX5_call wsX5_note := goodIn_r _ [52, 53, 54, 8, 55, 56, 4, 57, 69, 70, 71, 72, 73, 74, 75, 76, 77, 78, 79, 80, 81, 82, 83, 84] (by decide +kernel) (by decide +kernel)
set_option maxRecDepth 20000 in
theorem gX5_call_X5_note : GoodIn wsX5_call (wsV RX5 132 RX5 yX5_note wsX5_note) := goodIn_app (goodIn_of _ (by decide +kernel)) ggX5_call_X5_note
set_option maxRecDepth 20000 in
theorem ggX5_call_X5_act : GoodIn wsX5_call wsX5_act := goodIn_r _ [61, 6, 8, 62, 63, 64, 4, 65, 66, 67, 68, 36, 37, 38, 39, 40, 41, 42, 43, 69, 70, 71, 72, 73, 74, 75, 76, 77, 78, 79, 80, 81, 82, 83, 84] (by decide +kernel) (by decide +kernel)
set_option maxRecDepth 20000 in
theorem gX5_call_X5_act : GoodIn wsX5_call (wsV RX5 135 RX5 yX5_act wsX5_act) := goodIn_app (goodIn_of _ (by decide +kernel)) ggX5_call_X5_act
theorem dX5_call_0 : decode cX5_call 0 = .ok (.aload_n 0, 1) := by decide +kernel
theorem dX5_call_1 : decode cX5_call 1 = .ok (.iload_n 1, 1) := by decide +kernel
theorem dX5_call_2 : decode cX5_call 2 = .ok (.invokevirtual 126, 3) := by decide +kernel
theorem dX5_call_5 : decode cX5_call 5 = .ok (.istore_n 2, 1) := by decide +kernel
theorem dX5_call_6 : decode cX5_call 6 = .ok (.iload_n 2, 1) := by decide +kernel
theorem dX5_call_7 : decode cX5_call 7 = .ok (.ifCond .eq 9, 3) := by decide +kernel
theorem dX5_call_10 : decode cX5_call 10 = .ok (.aload_n 0, 1) := by decide +kernel
theorem dX5_call_11 : decode cX5_call 11 = .ok (.iload_n 2, 1) := by decide +kernel
theorem dX5_call_12 : decode cX5_call 12 = .ok (.invokevirtual 129, 3) := by decide +kernel
theorem dX5_call_15 : decode cX5_call 15 = .ok (.ireturn, 1) := by decide +kernel
theorem dX5_call_16 : decode cX5_call 16 = .ok (.aload_n 0, 1) := by decide +kernel
theorem dX5_call_17 : decode cX5_call 17 = .ok (.invokevirtual 132, 3) := by decide +kernel
theorem dX5_call_20 : decode cX5_call 20 = .ok (.aload_n 0, 1) := by decide +kernel
theorem dX5_call_21 : decode cX5_call 21 = .ok (.iload_n 1, 1) := by decide +kernel
theorem dX5_call_22 : decode cX5_call 22 = .ok (.invokevirtual 135, 3) := by decide +kernel
theorem dX5_call_25 : decode cX5_call 25 = .ok (.ireturn, 1) := by decide +kernel
set_option maxRecDepth 20000 in
theorem ggX5_span_X5_say : GoodIn wsX5_span wsX5_say := goodIn_r _ [5, 6, 77, 78, 79, 80, 81, 82, 83, 84, 85, 86, 87, 88, 89, 90, 91, 92] (by decide +kernel) (by decide +kernel)
set_option maxRecDepth 20000 in
theorem gX5_span_X5_say : GoodIn wsX5_span (wsV RX5 138 RX5 yX5_say wsX5_say) := goodIn_app (goodIn_of _ (by decide +kernel)) ggX5_span_X5_say
set_option maxRecDepth 20000 in
theorem ggX5_span_X5_call : GoodIn wsX5_span wsX5_call := goodIn_r _ [10, 11, 12, 13, 4, 14, 6, 15, 16, 17, 18, 19, 20, 21, 22, 23, 24, 25, 26, 27, 28, 29, 30, 31, 32, 33, 34, 35, 36, 37, 38, 39, 40, 41, 42, 43, 44, 45, 46, 47, 48, 49, 50, 51, 52, 53, 54, 55, 56, 57, 58, 59, 60, 61, 62, 63, 64, 65, 66, 67, 68, 69, 70, 71, 72, 73, 74, 75, 76, 77, 78, 79, 80, 81, 82, 83, 84, 85, 86, 87, 88, 89, 90, 91, 92] (by decide +kernel) (by decide +kernel)
set_option maxRecDepth 20000 in
theorem gX5_span_X5_call : GoodIn wsX5_span (wsV RX5 142 RX5 yX5_call wsX5_call) := goodIn_app (goodIn_of _ (by decide +kernel)) ggX5_span_X5_call
theorem dX5_span_0 : decode cX5_span 0 = .ok (.aload_n 0, 1) := by decide +kernel
theorem dX5_span_1 : decode cX5_span 1 = .ok (.iload_n 1, 1) := by decide +kernel
theorem dX5_span_2 : decode cX5_span 2 = .ok (.iload_n 2, 1) := by decide +kernel
theorem dX5_span_3 : decode cX5_span 3 = .ok (.iload_n 3, 1) := by decide +kernel
theorem dX5_span_4 : decode cX5_span 4 = .ok (.iload 4, 2) := by decide +kernel
theorem dX5_span_6 : decode cX5_span 6 = .ok (.invokevirtual 138, 3) := by decide +kernel
theorem dX5_span_9 : decode cX5_span 9 = .ok (.aload_n 0, 1) := by decide +kernel
theorem dX5_span_10 : decode cX5_span 10 = .ok (.bipush 104, 2) := by decide +kernel
theorem dX5_span_12 : decode cX5_span 12 = .ok (.invokevirtual 142, 3) := by decide +kernel
theorem dX5_span_15 : decode cX5_span 15 = .ok (.ireturn, 1) := by decide +kernel
set_option maxRecDepth 20000 in
theorem ggX5_cuts_X5_call : GoodIn wsX5_cuts wsX5_call := goodIn_r _ [5, 6, 7, 8, 4, 9, 10, 11, 12, 13, 14, 15, 16, 17, 18, 19, 20, 21, 22, 23, 24, 25, 26, 27, 28, 29, 30, 31, 32, 33, 34, 35, 36, 37, 38, 39, 40, 41, 42, 43, 44, 45, 46, 47, 48, 49, 50, 51, 52, 53, 54, 55, 56, 57, 58, 59, 60, 61, 62, 63, 64, 65, 66, 67, 68, 69, 70, 71, 72, 73, 74, 75, 76, 77, 78, 79, 80, 81, 82, 83, 84, 85, 86, 87, 88] (by decide +kernel) (by decide +kernel)
set_option maxRecDepth 20000 in
theorem gX5_cuts_X5_call : GoodIn wsX5_cuts (wsV RX5 142 RX5 yX5_call wsX5_call) := goodIn_app (goodIn_of _ (by decide +kernel)) ggX5_cuts_X5_call
theorem dX5_cuts_0 : decode cX5_cuts 0 = .ok (.aload_n 0, 1) := by decide +kernel
theorem dX5_cuts_1 : decode cX5_cuts 1 = .ok (.bipush 99, 2) := by decide +kernel
theorem dX5_cuts_3 : decode cX5_cuts 3 = .ok (.invokevirtual 142, 3) := by decide +kernel
theorem dX5_cuts_6 : decode cX5_cuts 6 = .ok (.ireturn, 1) := by decide +kernel
set_option maxRecDepth 20000 in
theorem ggX5_sets_X5_say : GoodIn wsX5_sets wsX5_say := goodIn_r _ [5, 6, 77, 78, 79, 80, 81, 82, 83, 84, 85, 86, 87, 88, 89, 90, 91, 92] (by decide +kernel) (by decide +kernel)
set_option maxRecDepth 20000 in
theorem gX5_sets_X5_say : GoodIn wsX5_sets (wsV RX5 138 RX5 yX5_say wsX5_say) := goodIn_app (goodIn_of _ (by decide +kernel)) ggX5_sets_X5_say
set_option maxRecDepth 20000 in
theorem ggX5_sets_X5_call : GoodIn wsX5_sets wsX5_call := goodIn_r _ [10, 11, 12, 13, 4, 14, 6, 15, 16, 17, 18, 19, 20, 21, 22, 23, 24, 25, 26, 27, 28, 29, 30, 31, 32, 33, 34, 35, 36, 37, 38, 39, 40, 41, 42, 43, 44, 45, 46, 47, 48, 49, 50, 51, 52, 53, 54, 55, 56, 57, 58, 59, 60, 61, 62, 63, 64, 65, 66, 67, 68, 69, 70, 71, 72, 73, 74, 75, 76, 77, 78, 79, 80, 81, 82, 83, 84, 85, 86, 87, 88, 89, 90, 91, 92] (by decide +kernel) (by decide +kernel)
set_option maxRecDepth 20000 in
theorem gX5_sets_X5_call : GoodIn wsX5_sets (wsV RX5 142 RX5 yX5_call wsX5_call) := goodIn_app (goodIn_of _ (by decide +kernel)) ggX5_sets_X5_call
theorem dX5_sets_0 : decode cX5_sets 0 = .ok (.aload_n 0, 1) := by decide +kernel
theorem dX5_sets_1 : decode cX5_sets 1 = .ok (.iload_n 1, 1) := by decide +kernel
theorem dX5_sets_2 : decode cX5_sets 2 = .ok (.iload_n 2, 1) := by decide +kernel
theorem dX5_sets_3 : decode cX5_sets 3 = .ok (.iconst 0, 1) := by decide +kernel
theorem dX5_sets_4 : decode cX5_sets 4 = .ok (.iconst 0, 1) := by decide +kernel
theorem dX5_sets_5 : decode cX5_sets 5 = .ok (.invokevirtual 138, 3) := by decide +kernel
theorem dX5_sets_8 : decode cX5_sets 8 = .ok (.aload_n 0, 1) := by decide +kernel
theorem dX5_sets_9 : decode cX5_sets 9 = .ok (.bipush 107, 2) := by decide +kernel
theorem dX5_sets_11 : decode cX5_sets 11 = .ok (.invokevirtual 142, 3) := by decide +kernel
theorem dX5_sets_14 : decode cX5_sets 14 = .ok (.ireturn, 1) := by decide +kernel
set_option maxRecDepth 20000 in
theorem ggX5_pumps_X5_say : GoodIn wsX5_pumps wsX5_say := goodIn_r _ [5, 6, 77, 78, 79, 80, 81, 82, 83, 84, 85, 86, 87, 88, 89, 90, 91, 92] (by decide +kernel) (by decide +kernel)
set_option maxRecDepth 20000 in
theorem gX5_pumps_X5_say : GoodIn wsX5_pumps (wsV RX5 138 RX5 yX5_say wsX5_say) := goodIn_app (goodIn_of _ (by decide +kernel)) ggX5_pumps_X5_say
set_option maxRecDepth 20000 in
theorem ggX5_pumps_X5_call : GoodIn wsX5_pumps wsX5_call := goodIn_r _ [10, 11, 12, 13, 4, 14, 6, 15, 16, 17, 18, 19, 20, 21, 22, 23, 24, 25, 26, 27, 28, 29, 30, 31, 32, 33, 34, 35, 36, 37, 38, 39, 40, 41, 42, 43, 44, 45, 46, 47, 48, 49, 50, 51, 52, 53, 54, 55, 56, 57, 58, 59, 60, 61, 62, 63, 64, 65, 66, 67, 68, 69, 70, 71, 72, 73, 74, 75, 76, 77, 78, 79, 80, 81, 82, 83, 84, 85, 86, 87, 88, 89, 90, 91, 92] (by decide +kernel) (by decide +kernel)
set_option maxRecDepth 20000 in
theorem gX5_pumps_X5_call : GoodIn wsX5_pumps (wsV RX5 142 RX5 yX5_call wsX5_call) := goodIn_app (goodIn_of _ (by decide +kernel)) ggX5_pumps_X5_call
theorem dX5_pumps_0 : decode cX5_pumps 0 = .ok (.aload_n 0, 1) := by decide +kernel
theorem dX5_pumps_1 : decode cX5_pumps 1 = .ok (.iload_n 1, 1) := by decide +kernel
theorem dX5_pumps_2 : decode cX5_pumps 2 = .ok (.iconst 0, 1) := by decide +kernel
theorem dX5_pumps_3 : decode cX5_pumps 3 = .ok (.iconst 0, 1) := by decide +kernel
theorem dX5_pumps_4 : decode cX5_pumps 4 = .ok (.iconst 0, 1) := by decide +kernel
theorem dX5_pumps_5 : decode cX5_pumps 5 = .ok (.invokevirtual 138, 3) := by decide +kernel
theorem dX5_pumps_8 : decode cX5_pumps 8 = .ok (.aload_n 0, 1) := by decide +kernel
theorem dX5_pumps_9 : decode cX5_pumps 9 = .ok (.bipush 112, 2) := by decide +kernel
theorem dX5_pumps_11 : decode cX5_pumps 11 = .ok (.invokevirtual 142, 3) := by decide +kernel
theorem dX5_pumps_14 : decode cX5_pumps 14 = .ok (.ireturn, 1) := by decide +kernel
set_option maxRecDepth 20000 in
theorem ggX5_bursts_X5_say : GoodIn wsX5_bursts wsX5_say := goodIn_r _ [5, 6, 77, 78, 79, 80, 81, 82, 83, 84, 85, 86, 87, 88, 89, 90, 91, 92] (by decide +kernel) (by decide +kernel)
set_option maxRecDepth 20000 in
theorem gX5_bursts_X5_say : GoodIn wsX5_bursts (wsV RX5 138 RX5 yX5_say wsX5_say) := goodIn_app (goodIn_of _ (by decide +kernel)) ggX5_bursts_X5_say
set_option maxRecDepth 20000 in
theorem ggX5_bursts_X5_call : GoodIn wsX5_bursts wsX5_call := goodIn_r _ [10, 11, 12, 13, 4, 14, 6, 15, 16, 17, 18, 19, 20, 21, 22, 23, 24, 25, 26, 27, 28, 29, 30, 31, 32, 33, 34, 35, 36, 37, 38, 39, 40, 41, 42, 43, 44, 45, 46, 47, 48, 49, 50, 51, 52, 53, 54, 55, 56, 57, 58, 59, 60, 61, 62, 63, 64, 65, 66, 67, 68, 69, 70, 71, 72, 73, 74, 75, 76, 77, 78, 79, 80, 81, 82, 83, 84, 85, 86, 87, 88, 89, 90, 91, 92] (by decide +kernel) (by decide +kernel)
set_option maxRecDepth 20000 in
theorem gX5_bursts_X5_call : GoodIn wsX5_bursts (wsV RX5 142 RX5 yX5_call wsX5_call) := goodIn_app (goodIn_of _ (by decide +kernel)) ggX5_bursts_X5_call
theorem dX5_bursts_0 : decode cX5_bursts 0 = .ok (.aload_n 0, 1) := by decide +kernel
theorem dX5_bursts_1 : decode cX5_bursts 1 = .ok (.iload_n 1, 1) := by decide +kernel
theorem dX5_bursts_2 : decode cX5_bursts 2 = .ok (.iconst 0, 1) := by decide +kernel
theorem dX5_bursts_3 : decode cX5_bursts 3 = .ok (.iconst 0, 1) := by decide +kernel
theorem dX5_bursts_4 : decode cX5_bursts 4 = .ok (.iconst 0, 1) := by decide +kernel
theorem dX5_bursts_5 : decode cX5_bursts 5 = .ok (.invokevirtual 138, 3) := by decide +kernel
theorem dX5_bursts_8 : decode cX5_bursts 8 = .ok (.aload_n 0, 1) := by decide +kernel
theorem dX5_bursts_9 : decode cX5_bursts 9 = .ok (.bipush 120, 2) := by decide +kernel
theorem dX5_bursts_11 : decode cX5_bursts 11 = .ok (.invokevirtual 142, 3) := by decide +kernel
theorem dX5_bursts_14 : decode cX5_bursts 14 = .ok (.ireturn, 1) := by decide +kernel
set_option maxRecDepth 20000 in
theorem ggX5_mends_X5_say : GoodIn wsX5_mends wsX5_say := goodIn_r _ [5, 6, 77, 78, 79, 80, 81, 82, 83, 84, 85, 86, 87, 88, 89, 90, 91, 92] (by decide +kernel) (by decide +kernel)
set_option maxRecDepth 20000 in
theorem gX5_mends_X5_say : GoodIn wsX5_mends (wsV RX5 138 RX5 yX5_say wsX5_say) := goodIn_app (goodIn_of _ (by decide +kernel)) ggX5_mends_X5_say
set_option maxRecDepth 20000 in
theorem ggX5_mends_X5_call : GoodIn wsX5_mends wsX5_call := goodIn_r _ [10, 11, 12, 13, 4, 14, 6, 15, 16, 17, 18, 19, 20, 21, 22, 23, 24, 25, 26, 27, 28, 29, 30, 31, 32, 33, 34, 35, 36, 37, 38, 39, 40, 41, 42, 43, 44, 45, 46, 47, 48, 49, 50, 51, 52, 53, 54, 55, 56, 57, 58, 59, 60, 61, 62, 63, 64, 65, 66, 67, 68, 69, 70, 71, 72, 73, 74, 75, 76, 77, 78, 79, 80, 81, 82, 83, 84, 85, 86, 87, 88, 89, 90, 91, 92] (by decide +kernel) (by decide +kernel)
set_option maxRecDepth 20000 in
theorem gX5_mends_X5_call : GoodIn wsX5_mends (wsV RX5 142 RX5 yX5_call wsX5_call) := goodIn_app (goodIn_of _ (by decide +kernel)) ggX5_mends_X5_call
theorem dX5_mends_0 : decode cX5_mends 0 = .ok (.aload_n 0, 1) := by decide +kernel
theorem dX5_mends_1 : decode cX5_mends 1 = .ok (.iload_n 1, 1) := by decide +kernel
theorem dX5_mends_2 : decode cX5_mends 2 = .ok (.iconst 0, 1) := by decide +kernel
theorem dX5_mends_3 : decode cX5_mends 3 = .ok (.iconst 0, 1) := by decide +kernel
theorem dX5_mends_4 : decode cX5_mends 4 = .ok (.iconst 0, 1) := by decide +kernel
theorem dX5_mends_5 : decode cX5_mends 5 = .ok (.invokevirtual 138, 3) := by decide +kernel
theorem dX5_mends_8 : decode cX5_mends 8 = .ok (.aload_n 0, 1) := by decide +kernel
theorem dX5_mends_9 : decode cX5_mends 9 = .ok (.bipush 109, 2) := by decide +kernel
theorem dX5_mends_11 : decode cX5_mends 11 = .ok (.invokevirtual 142, 3) := by decide +kernel
theorem dX5_mends_14 : decode cX5_mends 14 = .ok (.ireturn, 1) := by decide +kernel
set_option maxRecDepth 20000 in
theorem ggX5_lays_X5_findFewest : GoodIn wsX5_lays wsX5_findFewest := goodIn_r _ [8, 9, 3, 1, 10, 11, 7, 12, 13, 14, 15, 16, 17, 18, 19, 20, 21, 22, 23, 24, 25, 26, 27, 28, 29, 30, 31, 32, 33, 34, 35, 36, 37, 38, 39, 40, 41, 42, 43, 44, 45, 46, 62, 63, 64, 65, 66, 67, 68, 69, 70, 71, 72, 73, 74, 75, 76, 77] (by decide +kernel) (by decide +kernel)
set_option maxRecDepth 20000 in
theorem gX5_lays_X5_findFewest : GoodIn wsX5_lays (wsV RX5 95 RX5 yX5_findFewest wsX5_findFewest) := goodIn_app (goodIn_of _ (by decide +kernel)) ggX5_lays_X5_findFewest
set_option maxRecDepth 20000 in
theorem ggX5_lays_X5_refuse : GoodIn wsX5_lays wsX5_refuse := goodIn_r _ [50, 51, 52, 62, 63, 64, 65, 66, 67, 68, 69, 70, 71, 72, 73, 74, 75, 76, 77] (by decide +kernel) (by decide +kernel)
set_option maxRecDepth 20000 in
theorem gX5_lays_X5_refuse : GoodIn wsX5_lays (wsV RX5 129 RX5 yX5_refuse wsX5_refuse) := goodIn_app (goodIn_of _ (by decide +kernel)) ggX5_lays_X5_refuse
set_option maxRecDepth 20000 in
theorem ggX5_lays_X5_note : GoodIn wsX5_lays wsX5_note := goodIn_r _ [56, 57, 58, 1, 59, 60, 7, 61, 62, 63, 64, 65, 66, 67, 68, 69, 70, 71, 72, 73, 74, 75, 76, 77] (by decide +kernel) (by decide +kernel)
set_option maxRecDepth 20000 in
theorem gX5_lays_X5_note : GoodIn wsX5_lays (wsV RX5 132 RX5 yX5_note wsX5_note) := goodIn_app (goodIn_of _ (by decide +kernel)) ggX5_lays_X5_note
set_option maxRecDepth 20000 in
theorem ggX5_lays_X5_ones : GoodIn wsX5_lays wsX5_ones := goodIn_r _ [12] (by decide +kernel) (by decide +kernel)
set_option maxRecDepth 20000 in
theorem gX5_lays_X5_ones : GoodIn wsX5_lays (va_wsS RX5 89 yX5_ones wsX5_ones) := goodIn_app (goodIn_of _ (by decide +kernel)) ggX5_lays_X5_ones
theorem dX5_lays_0 : decode cX5_lays 0 = .ok (.aload_n 0, 1) := by decide +kernel
theorem dX5_lays_1 : decode cX5_lays 1 = .ok (.aload_n 0, 1) := by decide +kernel
theorem dX5_lays_2 : decode cX5_lays 2 = .ok (.getfield 7, 3) := by decide +kernel
theorem dX5_lays_5 : decode cX5_lays 5 = .ok (.iconst 2, 1) := by decide +kernel
theorem dX5_lays_6 : decode cX5_lays 6 = .ok (.iaload, 1) := by decide +kernel
theorem dX5_lays_7 : decode cX5_lays 7 = .ok (.invokevirtual 95, 3) := by decide +kernel
theorem dX5_lays_10 : decode cX5_lays 10 = .ok (.ifCond .ne 10, 3) := by decide +kernel
theorem dX5_lays_13 : decode cX5_lays 13 = .ok (.aload_n 0, 1) := by decide +kernel
theorem dX5_lays_14 : decode cX5_lays 14 = .ok (.ldc 106, 2) := by decide +kernel
theorem dX5_lays_16 : decode cX5_lays 16 = .ok (.invokevirtual 129, 3) := by decide +kernel
theorem dX5_lays_19 : decode cX5_lays 19 = .ok (.ireturn, 1) := by decide +kernel
theorem dX5_lays_20 : decode cX5_lays 20 = .ok (.aload_n 0, 1) := by decide +kernel
theorem dX5_lays_21 : decode cX5_lays 21 = .ok (.invokevirtual 132, 3) := by decide +kernel
theorem dX5_lays_24 : decode cX5_lays 24 = .ok (.aload_n 0, 1) := by decide +kernel
theorem dX5_lays_25 : decode cX5_lays 25 = .ok (.getfield 7, 3) := by decide +kernel
theorem dX5_lays_28 : decode cX5_lays 28 = .ok (.iconst 1, 1) := by decide +kernel
theorem dX5_lays_29 : decode cX5_lays 29 = .ok (.aload_n 0, 1) := by decide +kernel
theorem dX5_lays_30 : decode cX5_lays 30 = .ok (.getfield 86, 3) := by decide +kernel
theorem dX5_lays_33 : decode cX5_lays 33 = .ok (.iastore, 1) := by decide +kernel
theorem dX5_lays_34 : decode cX5_lays 34 = .ok (.aload_n 0, 1) := by decide +kernel
theorem dX5_lays_35 : decode cX5_lays 35 = .ok (.getfield 86, 3) := by decide +kernel
theorem dX5_lays_38 : decode cX5_lays 38 = .ok (.invokestatic 89, 3) := by decide +kernel
theorem dX5_lays_41 : decode cX5_lays 41 = .ok (.ireturn, 1) := by decide +kernel
set_option maxRecDepth 20000 in
theorem ggX5_of_X5_isSpan : GoodIn wsX5_of wsX5_isSpan := goodIn_r _ [6, 7, 8, 9, 5, 10, 20, 21, 22, 23, 24, 25, 26, 27, 28, 29, 30, 31, 32, 33, 34, 35] (by decide +kernel) (by decide +kernel)
set_option maxRecDepth 20000 in
theorem gX5_of_X5_isSpan : GoodIn wsX5_of (wsV RX5 100 RX5 yX5_isSpan wsX5_isSpan) := goodIn_app (goodIn_of _ (by decide +kernel)) ggX5_of_X5_isSpan
set_option maxRecDepth 20000 in
theorem ggX5_of_X5_in : GoodIn wsX5_of wsX5_in := goodIn_r _ [10] (by decide +kernel) (by decide +kernel)
set_option maxRecDepth 20000 in
theorem gX5_of_X5_in : GoodIn wsX5_of (va_wsS RX5 46 yX5_in wsX5_in) := goodIn_app (goodIn_of _ (by decide +kernel)) ggX5_of_X5_in
set_option maxRecDepth 20000 in
theorem ggX5_of_X5_ofSpan : GoodIn wsX5_of wsX5_ofSpan := goodIn_r _ [14, 7, 20, 21, 22, 23, 24, 25, 26, 27, 28, 29, 30, 31, 32, 33, 34, 35] (by decide +kernel) (by decide +kernel)
set_option maxRecDepth 20000 in
theorem gX5_of_X5_ofSpan : GoodIn wsX5_of (wsV RX5 50 RX5 yX5_ofSpan wsX5_ofSpan) := goodIn_app (goodIn_of _ (by decide +kernel)) ggX5_of_X5_ofSpan
set_option maxRecDepth 20000 in
theorem ggX5_of_X5_refuse : GoodIn wsX5_of wsX5_refuse := goodIn_r _ [18, 19, 1, 20, 21, 22, 23, 24, 25, 26, 27, 28, 29, 30, 31, 32, 33, 34, 35] (by decide +kernel) (by decide +kernel)
set_option maxRecDepth 20000 in
theorem gX5_of_X5_refuse : GoodIn wsX5_of (wsV RX5 129 RX5 yX5_refuse wsX5_refuse) := goodIn_app (goodIn_of _ (by decide +kernel)) ggX5_of_X5_refuse
theorem dX5_of_0 : decode cX5_of 0 = .ok (.aload_n 0, 1) := by decide +kernel
theorem dX5_of_1 : decode cX5_of 1 = .ok (.iload_n 1, 1) := by decide +kernel
theorem dX5_of_2 : decode cX5_of 2 = .ok (.invokevirtual 100, 3) := by decide +kernel
theorem dX5_of_5 : decode cX5_of 5 = .ok (.ifCond .eq 21, 3) := by decide +kernel
theorem dX5_of_8 : decode cX5_of 8 = .ok (.iload_n 2, 1) := by decide +kernel
theorem dX5_of_9 : decode cX5_of 9 = .ok (.iconst 0, 1) := by decide +kernel
theorem dX5_of_10 : decode cX5_of 10 = .ok (.iconst 4, 1) := by decide +kernel
theorem dX5_of_11 : decode cX5_of 11 = .ok (.invokestatic 46, 3) := by decide +kernel
theorem dX5_of_14 : decode cX5_of 14 = .ok (.ifCond .eq 12, 3) := by decide +kernel
theorem dX5_of_17 : decode cX5_of 17 = .ok (.aload_n 0, 1) := by decide +kernel
theorem dX5_of_18 : decode cX5_of 18 = .ok (.iload_n 1, 1) := by decide +kernel
theorem dX5_of_19 : decode cX5_of 19 = .ok (.iload_n 2, 1) := by decide +kernel
theorem dX5_of_20 : decode cX5_of 20 = .ok (.invokevirtual 50, 3) := by decide +kernel
theorem dX5_of_23 : decode cX5_of 23 = .ok (.goto 9, 3) := by decide +kernel
theorem dX5_of_26 : decode cX5_of 26 = .ok (.aload_n 0, 1) := by decide +kernel
theorem dX5_of_27 : decode cX5_of 27 = .ok (.ldc 37, 2) := by decide +kernel
theorem dX5_of_29 : decode cX5_of 29 = .ok (.invokevirtual 129, 3) := by decide +kernel
theorem dX5_of_32 : decode cX5_of 32 = .ok (.ireturn, 1) := by decide +kernel
set_option maxRecDepth 20000 in
theorem ggX5_loss_X5_isSpan : GoodIn wsX5_loss wsX5_isSpan := goodIn_r _ [6, 7, 8, 9, 5, 10, 27, 28, 29, 30, 31, 32, 33, 34, 35, 36, 37, 38, 39, 40, 41, 42] (by decide +kernel) (by decide +kernel)
set_option maxRecDepth 20000 in
theorem gX5_loss_X5_isSpan : GoodIn wsX5_loss (wsV RX5 100 RX5 yX5_isSpan wsX5_isSpan) := goodIn_app (goodIn_of _ (by decide +kernel)) ggX5_loss_X5_isSpan
set_option maxRecDepth 20000 in
theorem ggX5_loss_X5_in : GoodIn wsX5_loss wsX5_in := goodIn_r _ [10] (by decide +kernel) (by decide +kernel)
set_option maxRecDepth 20000 in
theorem gX5_loss_X5_in : GoodIn wsX5_loss (va_wsS RX5 46 yX5_in wsX5_in) := goodIn_app (goodIn_of _ (by decide +kernel)) ggX5_loss_X5_in
set_option maxRecDepth 20000 in
theorem ggX5_loss_X5_lossOf : GoodIn wsX5_loss wsX5_lossOf := goodIn_r _ [14, 15, 16, 17, 5, 18, 7, 19, 20, 21, 27, 28, 29, 30, 31, 32, 33, 34, 35, 36, 37, 38, 39, 40, 41, 42] (by decide +kernel) (by decide +kernel)
set_option maxRecDepth 20000 in
theorem gX5_loss_X5_lossOf : GoodIn wsX5_loss (wsV RX5 71 RX5 yX5_lossOf wsX5_lossOf) := goodIn_app (goodIn_of _ (by decide +kernel)) ggX5_loss_X5_lossOf
set_option maxRecDepth 20000 in
theorem ggX5_loss_X5_refuse : GoodIn wsX5_loss wsX5_refuse := goodIn_r _ [25, 26, 1, 27, 28, 29, 30, 31, 32, 33, 34, 35, 36, 37, 38, 39, 40, 41, 42] (by decide +kernel) (by decide +kernel)
set_option maxRecDepth 20000 in
theorem gX5_loss_X5_refuse : GoodIn wsX5_loss (wsV RX5 129 RX5 yX5_refuse wsX5_refuse) := goodIn_app (goodIn_of _ (by decide +kernel)) ggX5_loss_X5_refuse
theorem dX5_loss_0 : decode cX5_loss 0 = .ok (.aload_n 0, 1) := by decide +kernel
theorem dX5_loss_1 : decode cX5_loss 1 = .ok (.iload_n 1, 1) := by decide +kernel
theorem dX5_loss_2 : decode cX5_loss 2 = .ok (.invokevirtual 100, 3) := by decide +kernel
theorem dX5_loss_5 : decode cX5_loss 5 = .ok (.ifCond .eq 22, 3) := by decide +kernel
theorem dX5_loss_8 : decode cX5_loss 8 = .ok (.iload_n 2, 1) := by decide +kernel
theorem dX5_loss_9 : decode cX5_loss 9 = .ok (.iconst 1, 1) := by decide +kernel
theorem dX5_loss_10 : decode cX5_loss 10 = .ok (.bipush 30, 2) := by decide +kernel
theorem dX5_loss_12 : decode cX5_loss 12 = .ok (.invokestatic 46, 3) := by decide +kernel
theorem dX5_loss_15 : decode cX5_loss 15 = .ok (.ifCond .eq 12, 3) := by decide +kernel
theorem dX5_loss_18 : decode cX5_loss 18 = .ok (.aload_n 0, 1) := by decide +kernel
theorem dX5_loss_19 : decode cX5_loss 19 = .ok (.iload_n 1, 1) := by decide +kernel
theorem dX5_loss_20 : decode cX5_loss 20 = .ok (.iload_n 2, 1) := by decide +kernel
theorem dX5_loss_21 : decode cX5_loss 21 = .ok (.invokevirtual 71, 3) := by decide +kernel
theorem dX5_loss_24 : decode cX5_loss 24 = .ok (.goto 9, 3) := by decide +kernel
theorem dX5_loss_27 : decode cX5_loss 27 = .ok (.aload_n 0, 1) := by decide +kernel
theorem dX5_loss_28 : decode cX5_loss 28 = .ok (.ldc 37, 2) := by decide +kernel
theorem dX5_loss_30 : decode cX5_loss 30 = .ok (.invokevirtual 129, 3) := by decide +kernel
theorem dX5_loss_33 : decode cX5_loss 33 = .ok (.ireturn, 1) := by decide +kernel
set_option maxRecDepth 20000 in
theorem ggX5_node_X5_isNode : GoodIn wsX5_node wsX5_isNode := goodIn_r _ [9, 2, 10, 11, 8, 12, 51, 52, 53, 54, 55, 56, 57, 58, 59, 60, 61, 62, 63, 64, 65, 66] (by decide +kernel) (by decide +kernel)
set_option maxRecDepth 20000 in
theorem gX5_node_X5_isNode : GoodIn wsX5_node (wsV RX5 117 RX5 yX5_isNode wsX5_isNode) := goodIn_app (goodIn_of _ (by decide +kernel)) ggX5_node_X5_isNode
set_option maxRecDepth 20000 in
theorem ggX5_node_X5_in : GoodIn wsX5_node wsX5_in := goodIn_r _ [12] (by decide +kernel) (by decide +kernel)
set_option maxRecDepth 20000 in
theorem gX5_node_X5_in : GoodIn wsX5_node (va_wsS RX5 46 yX5_in wsX5_in) := goodIn_app (goodIn_of _ (by decide +kernel)) ggX5_node_X5_in
set_option maxRecDepth 20000 in
theorem ggX5_node_X5_refuse : GoodIn wsX5_node wsX5_refuse := goodIn_r _ [16, 17, 1, 51, 52, 53, 54, 55, 56, 57, 58, 59, 60, 61, 62, 63, 64, 65, 66] (by decide +kernel) (by decide +kernel)
set_option maxRecDepth 20000 in
theorem gX5_node_X5_refuse : GoodIn wsX5_node (wsV RX5 129 RX5 yX5_refuse wsX5_refuse) := goodIn_app (goodIn_of _ (by decide +kernel)) ggX5_node_X5_refuse
set_option maxRecDepth 20000 in
theorem ggX5_node_X5_goRun : GoodIn wsX5_node wsX5_goRun := goodIn_r _ [21, 3, 22, 4, 23, 24, 25, 2, 26, 27, 8, 28, 29, 30, 31, 32, 33, 34, 35, 36, 37, 38, 39, 40, 41, 42, 43, 44, 45, 46, 47, 48, 49, 50, 51, 52, 53, 54, 55, 56, 57, 58, 59, 60, 61, 62, 63, 64, 65, 66] (by decide +kernel) (by decide +kernel)
set_option maxRecDepth 20000 in
theorem gX5_node_X5_goRun : GoodIn wsX5_node (wsV RX5 92 RX5 yX5_goRun wsX5_goRun) := goodIn_app (goodIn_of _ (by decide +kernel)) ggX5_node_X5_goRun
theorem dX5_node_0 : decode cX5_node 0 = .ok (.aload_n 0, 1) := by decide +kernel
theorem dX5_node_1 : decode cX5_node 1 = .ok (.iload_n 1, 1) := by decide +kernel
theorem dX5_node_2 : decode cX5_node 2 = .ok (.invokevirtual 117, 3) := by decide +kernel
theorem dX5_node_5 : decode cX5_node 5 = .ok (.ifCond .eq 12, 3) := by decide +kernel
theorem dX5_node_8 : decode cX5_node 8 = .ok (.iload_n 2, 1) := by decide +kernel
theorem dX5_node_9 : decode cX5_node 9 = .ok (.iconst 0, 1) := by decide +kernel
theorem dX5_node_10 : decode cX5_node 10 = .ok (.iconst 1, 1) := by decide +kernel
theorem dX5_node_11 : decode cX5_node 11 = .ok (.invokestatic 46, 3) := by decide +kernel
theorem dX5_node_14 : decode cX5_node 14 = .ok (.ifCond .ne 10, 3) := by decide +kernel
theorem dX5_node_17 : decode cX5_node 17 = .ok (.aload_n 0, 1) := by decide +kernel
theorem dX5_node_18 : decode cX5_node 18 = .ok (.ldc 37, 2) := by decide +kernel
theorem dX5_node_20 : decode cX5_node 20 = .ok (.invokevirtual 129, 3) := by decide +kernel
theorem dX5_node_23 : decode cX5_node 23 = .ok (.ireturn, 1) := by decide +kernel
theorem dX5_node_24 : decode cX5_node 24 = .ok (.aload_n 0, 1) := by decide +kernel
theorem dX5_node_25 : decode cX5_node 25 = .ok (.aload_n 0, 1) := by decide +kernel
theorem dX5_node_26 : decode cX5_node 26 = .ok (.getfield 7, 3) := by decide +kernel
theorem dX5_node_29 : decode cX5_node 29 = .ok (.iconst 2, 1) := by decide +kernel
theorem dX5_node_30 : decode cX5_node 30 = .ok (.iaload, 1) := by decide +kernel
theorem dX5_node_31 : decode cX5_node 31 = .ok (.aload_n 0, 1) := by decide +kernel
theorem dX5_node_32 : decode cX5_node 32 = .ok (.getfield 7, 3) := by decide +kernel
theorem dX5_node_35 : decode cX5_node 35 = .ok (.iconst 1, 1) := by decide +kernel
theorem dX5_node_36 : decode cX5_node 36 = .ok (.iaload, 1) := by decide +kernel
theorem dX5_node_37 : decode cX5_node 37 = .ok (.invokevirtual 92, 3) := by decide +kernel
theorem dX5_node_40 : decode cX5_node 40 = .ok (.istore_n 3, 1) := by decide +kernel
theorem dX5_node_41 : decode cX5_node 41 = .ok (.iload_n 2, 1) := by decide +kernel
theorem dX5_node_42 : decode cX5_node 42 = .ok (.ifCond .ne 12, 3) := by decide +kernel
theorem dX5_node_45 : decode cX5_node 45 = .ok (.aload_n 0, 1) := by decide +kernel
theorem dX5_node_46 : decode cX5_node 46 = .ok (.getfield 25, 3) := by decide +kernel
theorem dX5_node_49 : decode cX5_node 49 = .ok (.iload_n 1, 1) := by decide +kernel
theorem dX5_node_50 : decode cX5_node 50 = .ok (.iaload, 1) := by decide +kernel
theorem dX5_node_51 : decode cX5_node 51 = .ok (.goto 9, 3) := by decide +kernel
theorem dX5_node_54 : decode cX5_node 54 = .ok (.aload_n 0, 1) := by decide +kernel
theorem dX5_node_55 : decode cX5_node 55 = .ok (.getfield 28, 3) := by decide +kernel
theorem dX5_node_58 : decode cX5_node 58 = .ok (.iload_n 1, 1) := by decide +kernel
theorem dX5_node_59 : decode cX5_node 59 = .ok (.iaload, 1) := by decide +kernel
theorem dX5_node_60 : decode cX5_node 60 = .ok (.ireturn, 1) := by decide +kernel
set_option maxRecDepth 20000 in
theorem ggX5_ofRun_X5_goRun : GoodIn wsX5_ofRun wsX5_goRun := goodIn_r _ [10, 11, 2, 12, 3, 4, 5, 1, 13, 14, 9, 15, 16, 17, 18, 19, 20, 21, 22, 23, 24, 25, 26, 27, 28, 29, 30, 31, 32, 33, 34, 35, 36, 37, 38, 39, 40, 41, 42, 43, 44, 45, 46, 47, 48, 49, 50, 51, 52, 53] (by decide +kernel) (by decide +kernel)
set_option maxRecDepth 20000 in
theorem gX5_ofRun_X5_goRun : GoodIn wsX5_ofRun (wsV RX5 92 RX5 yX5_goRun wsX5_goRun) := goodIn_app (goodIn_of _ (by decide +kernel)) ggX5_ofRun_X5_goRun
theorem dX5_ofRun_0 : decode cX5_ofRun 0 = .ok (.aload_n 0, 1) := by decide +kernel
theorem dX5_ofRun_1 : decode cX5_ofRun 1 = .ok (.aload_n 0, 1) := by decide +kernel
theorem dX5_ofRun_2 : decode cX5_ofRun 2 = .ok (.getfield 7, 3) := by decide +kernel
theorem dX5_ofRun_5 : decode cX5_ofRun 5 = .ok (.iconst 2, 1) := by decide +kernel
theorem dX5_ofRun_6 : decode cX5_ofRun 6 = .ok (.iaload, 1) := by decide +kernel
theorem dX5_ofRun_7 : decode cX5_ofRun 7 = .ok (.aload_n 0, 1) := by decide +kernel
theorem dX5_ofRun_8 : decode cX5_ofRun 8 = .ok (.getfield 7, 3) := by decide +kernel
theorem dX5_ofRun_11 : decode cX5_ofRun 11 = .ok (.iconst 1, 1) := by decide +kernel
theorem dX5_ofRun_12 : decode cX5_ofRun 12 = .ok (.iaload, 1) := by decide +kernel
theorem dX5_ofRun_13 : decode cX5_ofRun 13 = .ok (.invokevirtual 92, 3) := by decide +kernel
theorem dX5_ofRun_16 : decode cX5_ofRun 16 = .ok (.istore_n 2, 1) := by decide +kernel
theorem dX5_ofRun_17 : decode cX5_ofRun 17 = .ok (.iload_n 1, 1) := by decide +kernel
theorem dX5_ofRun_18 : decode cX5_ofRun 18 = .ok (.ifCond .ne 19, 3) := by decide +kernel
theorem dX5_ofRun_21 : decode cX5_ofRun 21 = .ok (.iload_n 2, 1) := by decide +kernel
theorem dX5_ofRun_22 : decode cX5_ofRun 22 = .ok (.ifCond .eq 8, 3) := by decide +kernel
theorem dX5_ofRun_25 : decode cX5_ofRun 25 = .ok (.ldc 74, 2) := by decide +kernel
theorem dX5_ofRun_27 : decode cX5_ofRun 27 = .ok (.goto 26, 3) := by decide +kernel
theorem dX5_ofRun_30 : decode cX5_ofRun 30 = .ok (.aload_n 0, 1) := by decide +kernel
theorem dX5_ofRun_31 : decode cX5_ofRun 31 = .ok (.getfield 58, 3) := by decide +kernel
theorem dX5_ofRun_34 : decode cX5_ofRun 34 = .ok (.goto 19, 3) := by decide +kernel
theorem dX5_ofRun_37 : decode cX5_ofRun 37 = .ok (.iload_n 1, 1) := by decide +kernel
theorem dX5_ofRun_38 : decode cX5_ofRun 38 = .ok (.iconst 1, 1) := by decide +kernel
theorem dX5_ofRun_39 : decode cX5_ofRun 39 = .ok (.if_icmp .ne 10, 3) := by decide +kernel
theorem dX5_ofRun_42 : decode cX5_ofRun 42 = .ok (.aload_n 0, 1) := by decide +kernel
theorem dX5_ofRun_43 : decode cX5_ofRun 43 = .ok (.getfield 61, 3) := by decide +kernel
theorem dX5_ofRun_46 : decode cX5_ofRun 46 = .ok (.goto 7, 3) := by decide +kernel
theorem dX5_ofRun_49 : decode cX5_ofRun 49 = .ok (.aload_n 0, 1) := by decide +kernel
theorem dX5_ofRun_50 : decode cX5_ofRun 50 = .ok (.getfield 75, 3) := by decide +kernel
theorem dX5_ofRun_53 : decode cX5_ofRun 53 = .ok (.ireturn, 1) := by decide +kernel
set_option maxRecDepth 20000 in
theorem ggX5_run_X5_in : GoodIn wsX5_run wsX5_in := goodIn_r _ [5] (by decide +kernel) (by decide +kernel)
set_option maxRecDepth 20000 in
theorem gX5_run_X5_in : GoodIn wsX5_run (va_wsS RX5 46 yX5_in wsX5_in) := goodIn_app (goodIn_of _ (by decide +kernel)) ggX5_run_X5_in
set_option maxRecDepth 20000 in
theorem ggX5_run_X5_ofRun : GoodIn wsX5_run wsX5_ofRun := goodIn_r _ [9, 10, 11, 12, 13, 14, 15, 16, 17, 4, 18, 19, 20, 21, 22, 23, 24, 25, 26, 27, 28, 29, 30, 31, 32, 33, 34, 35, 36, 37, 38, 39, 40, 41, 42, 43, 44, 45, 51, 52, 53, 54, 55, 56, 57, 58, 59, 60, 61, 62, 63, 64, 65, 66] (by decide +kernel) (by decide +kernel)
set_option maxRecDepth 20000 in
theorem gX5_run_X5_ofRun : GoodIn wsX5_run (wsV RX5 145 RX5 yX5_ofRun wsX5_ofRun) := goodIn_app (goodIn_of _ (by decide +kernel)) ggX5_run_X5_ofRun
set_option maxRecDepth 20000 in
theorem ggX5_run_X5_refuse : GoodIn wsX5_run wsX5_refuse := goodIn_r _ [49, 50, 1, 51, 52, 53, 54, 55, 56, 57, 58, 59, 60, 61, 62, 63, 64, 65, 66] (by decide +kernel) (by decide +kernel)
set_option maxRecDepth 20000 in
theorem gX5_run_X5_refuse : GoodIn wsX5_run (wsV RX5 129 RX5 yX5_refuse wsX5_refuse) := goodIn_app (goodIn_of _ (by decide +kernel)) ggX5_run_X5_refuse
theorem dX5_run_0 : decode cX5_run 0 = .ok (.iload_n 1, 1) := by decide +kernel
theorem dX5_run_1 : decode cX5_run 1 = .ok (.iconst 0, 1) := by decide +kernel
theorem dX5_run_2 : decode cX5_run 2 = .ok (.iconst 2, 1) := by decide +kernel
theorem dX5_run_3 : decode cX5_run 3 = .ok (.invokestatic 46, 3) := by decide +kernel
theorem dX5_run_6 : decode cX5_run 6 = .ok (.ifCond .eq 11, 3) := by decide +kernel
theorem dX5_run_9 : decode cX5_run 9 = .ok (.aload_n 0, 1) := by decide +kernel
theorem dX5_run_10 : decode cX5_run 10 = .ok (.iload_n 1, 1) := by decide +kernel
theorem dX5_run_11 : decode cX5_run 11 = .ok (.invokevirtual 145, 3) := by decide +kernel
theorem dX5_run_14 : decode cX5_run 14 = .ok (.goto 9, 3) := by decide +kernel
theorem dX5_run_17 : decode cX5_run 17 = .ok (.aload_n 0, 1) := by decide +kernel
theorem dX5_run_18 : decode cX5_run 18 = .ok (.ldc 37, 2) := by decide +kernel
theorem dX5_run_20 : decode cX5_run 20 = .ok (.invokevirtual 129, 3) := by decide +kernel
theorem dX5_run_23 : decode cX5_run 23 = .ok (.ireturn, 1) := by decide +kernel
set_option maxRecDepth 20000 in
theorem ggX5_fewest_X5_in : GoodIn wsX5_fewest wsX5_in := goodIn_r _ [5] (by decide +kernel) (by decide +kernel)
set_option maxRecDepth 20000 in
theorem gX5_fewest_X5_in : GoodIn wsX5_fewest (va_wsS RX5 46 yX5_in wsX5_in) := goodIn_app (goodIn_of _ (by decide +kernel)) ggX5_fewest_X5_in
set_option maxRecDepth 20000 in
theorem ggX5_fewest_X5_fewestOf : GoodIn wsX5_fewest wsX5_fewestOf := goodIn_r _ [9, 10, 11, 12, 13, 14, 4, 15, 16, 17, 18, 19, 20, 21, 22, 23, 24, 25, 26, 27, 28, 29, 30, 31, 32, 33, 34, 35, 36, 37, 38, 39, 40, 41, 42, 43, 44, 45, 46, 47, 48, 49, 50, 51, 52, 53, 59, 60, 61, 62, 63, 64, 65, 66, 67, 68, 69, 70, 71, 72, 73, 74] (by decide +kernel) (by decide +kernel)
set_option maxRecDepth 20000 in
theorem gX5_fewest_X5_fewestOf : GoodIn wsX5_fewest (wsV RX5 148 RX5 yX5_fewestOf wsX5_fewestOf) := goodIn_app (goodIn_of _ (by decide +kernel)) ggX5_fewest_X5_fewestOf
set_option maxRecDepth 20000 in
theorem ggX5_fewest_X5_refuse : GoodIn wsX5_fewest wsX5_refuse := goodIn_r _ [57, 58, 1, 59, 60, 61, 62, 63, 64, 65, 66, 67, 68, 69, 70, 71, 72, 73, 74] (by decide +kernel) (by decide +kernel)
set_option maxRecDepth 20000 in
theorem gX5_fewest_X5_refuse : GoodIn wsX5_fewest (wsV RX5 129 RX5 yX5_refuse wsX5_refuse) := goodIn_app (goodIn_of _ (by decide +kernel)) ggX5_fewest_X5_refuse
theorem dX5_fewest_0 : decode cX5_fewest 0 = .ok (.iload_n 1, 1) := by decide +kernel
theorem dX5_fewest_1 : decode cX5_fewest 1 = .ok (.iconst 1, 1) := by decide +kernel
theorem dX5_fewest_2 : decode cX5_fewest 2 = .ok (.bipush 30, 2) := by decide +kernel
theorem dX5_fewest_4 : decode cX5_fewest 4 = .ok (.invokestatic 46, 3) := by decide +kernel
theorem dX5_fewest_7 : decode cX5_fewest 7 = .ok (.ifCond .eq 21, 3) := by decide +kernel
theorem dX5_fewest_10 : decode cX5_fewest 10 = .ok (.iload_n 2, 1) := by decide +kernel
theorem dX5_fewest_11 : decode cX5_fewest 11 = .ok (.iconst 0, 1) := by decide +kernel
theorem dX5_fewest_12 : decode cX5_fewest 12 = .ok (.iconst 1, 1) := by decide +kernel
theorem dX5_fewest_13 : decode cX5_fewest 13 = .ok (.invokestatic 46, 3) := by decide +kernel
theorem dX5_fewest_16 : decode cX5_fewest 16 = .ok (.ifCond .eq 12, 3) := by decide +kernel
theorem dX5_fewest_19 : decode cX5_fewest 19 = .ok (.aload_n 0, 1) := by decide +kernel
theorem dX5_fewest_20 : decode cX5_fewest 20 = .ok (.iload_n 1, 1) := by decide +kernel
theorem dX5_fewest_21 : decode cX5_fewest 21 = .ok (.iload_n 2, 1) := by decide +kernel
theorem dX5_fewest_22 : decode cX5_fewest 22 = .ok (.invokevirtual 148, 3) := by decide +kernel
theorem dX5_fewest_25 : decode cX5_fewest 25 = .ok (.goto 9, 3) := by decide +kernel
theorem dX5_fewest_28 : decode cX5_fewest 28 = .ok (.aload_n 0, 1) := by decide +kernel
theorem dX5_fewest_29 : decode cX5_fewest 29 = .ok (.ldc 37, 2) := by decide +kernel
theorem dX5_fewest_31 : decode cX5_fewest 31 = .ok (.invokevirtual 129, 3) := by decide +kernel
theorem dX5_fewest_34 : decode cX5_fewest 34 = .ok (.ireturn, 1) := by decide +kernel
set_option maxRecDepth 20000 in
theorem ggX5_most_X5_mostNow : GoodIn wsX5_most wsX5_mostNow := goodIn_r _ [5, 6, 7, 8, 9, 10, 4, 11, 12, 13, 14, 15, 16, 17, 18, 19, 20, 21, 22, 23, 24, 25, 26, 27, 28, 29, 30, 31, 32, 33, 34, 35, 36, 37, 38, 39, 40, 41, 42, 43, 44, 45, 46, 47, 48, 49, 50, 51, 52, 53, 54, 55, 56, 57] (by decide +kernel) (by decide +kernel)
set_option maxRecDepth 20000 in
theorem gX5_most_X5_mostNow : GoodIn wsX5_most (wsV RX5 151 RX5 yX5_mostNow wsX5_mostNow) := goodIn_app (goodIn_of _ (by decide +kernel)) ggX5_most_X5_mostNow
theorem dX5_most_0 : decode cX5_most 0 = .ok (.aload_n 0, 1) := by decide +kernel
theorem dX5_most_1 : decode cX5_most 1 = .ok (.invokevirtual 151, 3) := by decide +kernel
theorem dX5_most_4 : decode cX5_most 4 = .ok (.ireturn, 1) := by decide +kernel
set_option maxRecDepth 20000 in
theorem ggX5_countOf_X5_in : GoodIn wsX5_countOf wsX5_in := goodIn_r _ [5] (by decide +kernel) (by decide +kernel)
set_option maxRecDepth 20000 in
theorem gX5_countOf_X5_in : GoodIn wsX5_countOf (va_wsS RX5 46 yX5_in wsX5_in) := goodIn_app (goodIn_of _ (by decide +kernel)) ggX5_countOf_X5_in
set_option maxRecDepth 20000 in
theorem ggX5_countOf_X5_ofSpan : GoodIn wsX5_countOf wsX5_ofSpan := goodIn_r _ [9, 1, 17, 18, 19, 20, 21, 22, 23, 24, 25, 26, 27, 28, 29, 30, 31, 32] (by decide +kernel) (by decide +kernel)
set_option maxRecDepth 20000 in
theorem gX5_countOf_X5_ofSpan : GoodIn wsX5_countOf (wsV RX5 50 RX5 yX5_ofSpan wsX5_ofSpan) := goodIn_app (goodIn_of _ (by decide +kernel)) ggX5_countOf_X5_ofSpan
set_option maxRecDepth 20000 in
theorem ggX5_countOf_X5_lengthsOf : GoodIn wsX5_countOf wsX5_lengthsOf := goodIn_r _ [13, 6, 7, 8, 4, 9, 1, 17, 18, 19, 20, 21, 22, 23, 24, 25, 26, 27, 28, 29, 30, 31, 32] (by decide +kernel) (by decide +kernel)
set_option maxRecDepth 20000 in
theorem gX5_countOf_X5_lengthsOf : GoodIn wsX5_countOf (wsV RX5 103 RX5 yX5_lengthsOf wsX5_lengthsOf) := goodIn_app (goodIn_of _ (by decide +kernel)) ggX5_countOf_X5_lengthsOf
set_option maxRecDepth 20000 in
theorem ggX5_countOf_X5_ones : GoodIn wsX5_countOf wsX5_ones := goodIn_r _ [16] (by decide +kernel) (by decide +kernel)
set_option maxRecDepth 20000 in
theorem gX5_countOf_X5_ones : GoodIn wsX5_countOf (va_wsS RX5 89 yX5_ones wsX5_ones) := goodIn_app (goodIn_of _ (by decide +kernel)) ggX5_countOf_X5_ones
theorem dX5_countOf_0 : decode cX5_countOf 0 = .ok (.iload_n 1, 1) := by decide +kernel
theorem dX5_countOf_1 : decode cX5_countOf 1 = .ok (.iconst 4, 1) := by decide +kernel
theorem dX5_countOf_2 : decode cX5_countOf 2 = .ok (.bipush 9, 2) := by decide +kernel
theorem dX5_countOf_4 : decode cX5_countOf 4 = .ok (.invokestatic 46, 3) := by decide +kernel
theorem dX5_countOf_7 : decode cX5_countOf 7 = .ok (.ifCond .eq 14, 3) := by decide +kernel
theorem dX5_countOf_10 : decode cX5_countOf 10 = .ok (.aload_n 0, 1) := by decide +kernel
theorem dX5_countOf_11 : decode cX5_countOf 11 = .ok (.getfield 7, 3) := by decide +kernel
theorem dX5_countOf_14 : decode cX5_countOf 14 = .ok (.iconst 2, 1) := by decide +kernel
theorem dX5_countOf_15 : decode cX5_countOf 15 = .ok (.iload_n 1, 1) := by decide +kernel
theorem dX5_countOf_16 : decode cX5_countOf 16 = .ok (.iadd, 1) := by decide +kernel
theorem dX5_countOf_17 : decode cX5_countOf 17 = .ok (.iconst 4, 1) := by decide +kernel
theorem dX5_countOf_18 : decode cX5_countOf 18 = .ok (.isub, 1) := by decide +kernel
theorem dX5_countOf_19 : decode cX5_countOf 19 = .ok (.iaload, 1) := by decide +kernel
theorem dX5_countOf_20 : decode cX5_countOf 20 = .ok (.ireturn, 1) := by decide +kernel
theorem dX5_countOf_21 : decode cX5_countOf 21 = .ok (.iconst 0, 1) := by decide +kernel
theorem dX5_countOf_22 : decode cX5_countOf 22 = .ok (.istore_n 2, 1) := by decide +kernel
theorem dX5_countOf_23 : decode cX5_countOf 23 = .ok (.iconst 0, 1) := by decide +kernel
theorem dX5_countOf_24 : decode cX5_countOf 24 = .ok (.istore_n 3, 1) := by decide +kernel
theorem dX5_countOf_25 : decode cX5_countOf 25 = .ok (.iconst 0, 1) := by decide +kernel
theorem dX5_countOf_26 : decode cX5_countOf 26 = .ok (.istore 4, 2) := by decide +kernel
theorem dX5_countOf_28 : decode cX5_countOf 28 = .ok (.iload 4, 2) := by decide +kernel
theorem dX5_countOf_30 : decode cX5_countOf 30 = .ok (.aload_n 0, 1) := by decide +kernel
theorem dX5_countOf_31 : decode cX5_countOf 31 = .ok (.getfield 7, 3) := by decide +kernel
theorem dX5_countOf_34 : decode cX5_countOf 34 = .ok (.iconst 0, 1) := by decide +kernel
theorem dX5_countOf_35 : decode cX5_countOf 35 = .ok (.iaload, 1) := by decide +kernel
theorem dX5_countOf_36 : decode cX5_countOf 36 = .ok (.if_icmp .ge 28, 3) := by decide +kernel
theorem dX5_countOf_39 : decode cX5_countOf 39 = .ok (.iload_n 2, 1) := by decide +kernel
theorem dX5_countOf_40 : decode cX5_countOf 40 = .ok (.aload_n 0, 1) := by decide +kernel
theorem dX5_countOf_41 : decode cX5_countOf 41 = .ok (.iload 4, 2) := by decide +kernel
theorem dX5_countOf_43 : decode cX5_countOf 43 = .ok (.iconst 4, 1) := by decide +kernel
theorem dX5_countOf_44 : decode cX5_countOf 44 = .ok (.invokevirtual 50, 3) := by decide +kernel
theorem dX5_countOf_47 : decode cX5_countOf 47 = .ok (.iadd, 1) := by decide +kernel
theorem dX5_countOf_48 : decode cX5_countOf 48 = .ok (.istore_n 2, 1) := by decide +kernel
theorem dX5_countOf_49 : decode cX5_countOf 49 = .ok (.iload_n 3, 1) := by decide +kernel
theorem dX5_countOf_50 : decode cX5_countOf 50 = .ok (.aload_n 0, 1) := by decide +kernel
theorem dX5_countOf_51 : decode cX5_countOf 51 = .ok (.iload 4, 2) := by decide +kernel
theorem dX5_countOf_53 : decode cX5_countOf 53 = .ok (.invokevirtual 103, 3) := by decide +kernel
theorem dX5_countOf_56 : decode cX5_countOf 56 = .ok (.iadd, 1) := by decide +kernel
theorem dX5_countOf_57 : decode cX5_countOf 57 = .ok (.istore_n 3, 1) := by decide +kernel
theorem dX5_countOf_58 : decode cX5_countOf 58 = .ok (.iinc 4 1, 3) := by decide +kernel
theorem dX5_countOf_61 : decode cX5_countOf 61 = .ok (.goto (-33), 3) := by decide +kernel
theorem dX5_countOf_64 : decode cX5_countOf 64 = .ok (.iload_n 1, 1) := by decide +kernel
theorem dX5_countOf_65 : decode cX5_countOf 65 = .ok (.ifCond .ne 15, 3) := by decide +kernel
theorem dX5_countOf_68 : decode cX5_countOf 68 = .ok (.aload_n 0, 1) := by decide +kernel
theorem dX5_countOf_69 : decode cX5_countOf 69 = .ok (.getfield 7, 3) := by decide +kernel
theorem dX5_countOf_72 : decode cX5_countOf 72 = .ok (.iconst 1, 1) := by decide +kernel
theorem dX5_countOf_73 : decode cX5_countOf 73 = .ok (.iaload, 1) := by decide +kernel
theorem dX5_countOf_74 : decode cX5_countOf 74 = .ok (.invokestatic 89, 3) := by decide +kernel
theorem dX5_countOf_77 : decode cX5_countOf 77 = .ok (.goto 41, 3) := by decide +kernel
theorem dX5_countOf_80 : decode cX5_countOf 80 = .ok (.iload_n 1, 1) := by decide +kernel
theorem dX5_countOf_81 : decode cX5_countOf 81 = .ok (.iconst 1, 1) := by decide +kernel
theorem dX5_countOf_82 : decode cX5_countOf 82 = .ok (.if_icmp .ne 12, 3) := by decide +kernel
theorem dX5_countOf_85 : decode cX5_countOf 85 = .ok (.aload_n 0, 1) := by decide +kernel
theorem dX5_countOf_86 : decode cX5_countOf 86 = .ok (.getfield 7, 3) := by decide +kernel
theorem dX5_countOf_89 : decode cX5_countOf 89 = .ok (.iconst 1, 1) := by decide +kernel
theorem dX5_countOf_90 : decode cX5_countOf 90 = .ok (.iaload, 1) := by decide +kernel
theorem dX5_countOf_91 : decode cX5_countOf 91 = .ok (.goto 27, 3) := by decide +kernel
theorem dX5_countOf_94 : decode cX5_countOf 94 = .ok (.iload_n 1, 1) := by decide +kernel
theorem dX5_countOf_95 : decode cX5_countOf 95 = .ok (.iconst 2, 1) := by decide +kernel
theorem dX5_countOf_96 : decode cX5_countOf 96 = .ok (.if_icmp .ne 12, 3) := by decide +kernel
theorem dX5_countOf_99 : decode cX5_countOf 99 = .ok (.aload_n 0, 1) := by decide +kernel
theorem dX5_countOf_100 : decode cX5_countOf 100 = .ok (.getfield 7, 3) := by decide +kernel
theorem dX5_countOf_103 : decode cX5_countOf 103 = .ok (.iconst 0, 1) := by decide +kernel
theorem dX5_countOf_104 : decode cX5_countOf 104 = .ok (.iaload, 1) := by decide +kernel
theorem dX5_countOf_105 : decode cX5_countOf 105 = .ok (.goto 13, 3) := by decide +kernel
theorem dX5_countOf_108 : decode cX5_countOf 108 = .ok (.iload_n 1, 1) := by decide +kernel
theorem dX5_countOf_109 : decode cX5_countOf 109 = .ok (.iconst 3, 1) := by decide +kernel
theorem dX5_countOf_110 : decode cX5_countOf 110 = .ok (.if_icmp .ne 7, 3) := by decide +kernel
theorem dX5_countOf_113 : decode cX5_countOf 113 = .ok (.iload_n 2, 1) := by decide +kernel
theorem dX5_countOf_114 : decode cX5_countOf 114 = .ok (.goto 4, 3) := by decide +kernel
theorem dX5_countOf_117 : decode cX5_countOf 117 = .ok (.iload_n 3, 1) := by decide +kernel
theorem dX5_countOf_118 : decode cX5_countOf 118 = .ok (.ireturn, 1) := by decide +kernel
set_option maxRecDepth 20000 in
theorem ggX5_count_X5_in : GoodIn wsX5_count wsX5_in := goodIn_r _ [5] (by decide +kernel) (by decide +kernel)
set_option maxRecDepth 20000 in
theorem gX5_count_X5_in : GoodIn wsX5_count (va_wsS RX5 46 yX5_in wsX5_in) := goodIn_app (goodIn_of _ (by decide +kernel)) ggX5_count_X5_in
set_option maxRecDepth 20000 in
theorem ggX5_count_X5_countOf : GoodIn wsX5_count wsX5_countOf := goodIn_r _ [9, 10, 2, 3, 4, 5, 11, 12, 13, 14, 15, 16, 17, 18, 19, 20, 21, 27, 28, 29, 30, 31, 32, 33, 34, 35, 36, 37, 38, 39, 40, 41, 42] (by decide +kernel) (by decide +kernel)
set_option maxRecDepth 20000 in
theorem gX5_count_X5_countOf : GoodIn wsX5_count (wsV RX5 154 RX5 yX5_countOf wsX5_countOf) := goodIn_app (goodIn_of _ (by decide +kernel)) ggX5_count_X5_countOf
set_option maxRecDepth 20000 in
theorem ggX5_count_X5_refuse : GoodIn wsX5_count wsX5_refuse := goodIn_r _ [25, 26, 1, 27, 28, 29, 30, 31, 32, 33, 34, 35, 36, 37, 38, 39, 40, 41, 42] (by decide +kernel) (by decide +kernel)
set_option maxRecDepth 20000 in
theorem gX5_count_X5_refuse : GoodIn wsX5_count (wsV RX5 129 RX5 yX5_refuse wsX5_refuse) := goodIn_app (goodIn_of _ (by decide +kernel)) ggX5_count_X5_refuse
theorem dX5_count_0 : decode cX5_count 0 = .ok (.iload_n 1, 1) := by decide +kernel
theorem dX5_count_1 : decode cX5_count 1 = .ok (.iconst 0, 1) := by decide +kernel
theorem dX5_count_2 : decode cX5_count 2 = .ok (.bipush 10, 2) := by decide +kernel
theorem dX5_count_4 : decode cX5_count 4 = .ok (.invokestatic 46, 3) := by decide +kernel
theorem dX5_count_7 : decode cX5_count 7 = .ok (.ifCond .eq 11, 3) := by decide +kernel
theorem dX5_count_10 : decode cX5_count 10 = .ok (.aload_n 0, 1) := by decide +kernel
theorem dX5_count_11 : decode cX5_count 11 = .ok (.iload_n 1, 1) := by decide +kernel
theorem dX5_count_12 : decode cX5_count 12 = .ok (.invokevirtual 154, 3) := by decide +kernel
theorem dX5_count_15 : decode cX5_count 15 = .ok (.goto 9, 3) := by decide +kernel
theorem dX5_count_18 : decode cX5_count 18 = .ok (.aload_n 0, 1) := by decide +kernel
theorem dX5_count_19 : decode cX5_count 19 = .ok (.ldc 37, 2) := by decide +kernel
theorem dX5_count_21 : decode cX5_count 21 = .ok (.invokevirtual 129, 3) := by decide +kernel
theorem dX5_count_24 : decode cX5_count 24 = .ok (.ireturn, 1) := by decide +kernel
set_option maxRecDepth 20000 in
theorem ggX5_areTimes_X5_in : GoodIn wsX5_areTimes wsX5_in := goodIn_r _ [4] (by decide +kernel) (by decide +kernel)
set_option maxRecDepth 20000 in
theorem gX5_areTimes_X5_in : GoodIn wsX5_areTimes (va_wsS RX5 46 yX5_in wsX5_in) := goodIn_app (goodIn_of _ (by decide +kernel)) ggX5_areTimes_X5_in
theorem dX5_areTimes_0 : decode cX5_areTimes 0 = .ok (.iload_n 0, 1) := by decide +kernel
theorem dX5_areTimes_1 : decode cX5_areTimes 1 = .ok (.iconst 1, 1) := by decide +kernel
theorem dX5_areTimes_2 : decode cX5_areTimes 2 = .ok (.bipush 99, 2) := by decide +kernel
theorem dX5_areTimes_4 : decode cX5_areTimes 4 = .ok (.invokestatic 46, 3) := by decide +kernel
theorem dX5_areTimes_7 : decode cX5_areTimes 7 = .ok (.ifCond .eq 37, 3) := by decide +kernel
theorem dX5_areTimes_10 : decode cX5_areTimes 10 = .ok (.iload_n 1, 1) := by decide +kernel
theorem dX5_areTimes_11 : decode cX5_areTimes 11 = .ok (.iconst 1, 1) := by decide +kernel
theorem dX5_areTimes_12 : decode cX5_areTimes 12 = .ok (.bipush 99, 2) := by decide +kernel
theorem dX5_areTimes_14 : decode cX5_areTimes 14 = .ok (.invokestatic 46, 3) := by decide +kernel
theorem dX5_areTimes_17 : decode cX5_areTimes 17 = .ok (.ifCond .eq 27, 3) := by decide +kernel
theorem dX5_areTimes_20 : decode cX5_areTimes 20 = .ok (.iload_n 2, 1) := by decide +kernel
theorem dX5_areTimes_21 : decode cX5_areTimes 21 = .ok (.iconst 1, 1) := by decide +kernel
theorem dX5_areTimes_22 : decode cX5_areTimes 22 = .ok (.bipush 99, 2) := by decide +kernel
theorem dX5_areTimes_24 : decode cX5_areTimes 24 = .ok (.invokestatic 46, 3) := by decide +kernel
theorem dX5_areTimes_27 : decode cX5_areTimes 27 = .ok (.ifCond .eq 17, 3) := by decide +kernel
theorem dX5_areTimes_30 : decode cX5_areTimes 30 = .ok (.iload_n 3, 1) := by decide +kernel
theorem dX5_areTimes_31 : decode cX5_areTimes 31 = .ok (.iconst 1, 1) := by decide +kernel
theorem dX5_areTimes_32 : decode cX5_areTimes 32 = .ok (.bipush 99, 2) := by decide +kernel
theorem dX5_areTimes_34 : decode cX5_areTimes 34 = .ok (.invokestatic 46, 3) := by decide +kernel
theorem dX5_areTimes_37 : decode cX5_areTimes 37 = .ok (.ifCond .eq 7, 3) := by decide +kernel
theorem dX5_areTimes_40 : decode cX5_areTimes 40 = .ok (.iconst 1, 1) := by decide +kernel
theorem dX5_areTimes_41 : decode cX5_areTimes 41 = .ok (.goto 4, 3) := by decide +kernel
theorem dX5_areTimes_44 : decode cX5_areTimes 44 = .ok (.iconst 0, 1) := by decide +kernel
theorem dX5_areTimes_45 : decode cX5_areTimes 45 = .ok (.ireturn, 1) := by decide +kernel
theorem dX5_bringsBy_0 : decode cX5_bringsBy 0 = .ok (.bipush 60, 2) := by decide +kernel
theorem dX5_bringsBy_2 : decode cX5_bringsBy 2 = .ok (.iload_n 0, 1) := by decide +kernel
theorem dX5_bringsBy_3 : decode cX5_bringsBy 3 = .ok (.imul, 1) := by decide +kernel
theorem dX5_bringsBy_4 : decode cX5_bringsBy 4 = .ok (.iload_n 1, 1) := by decide +kernel
theorem dX5_bringsBy_5 : decode cX5_bringsBy 5 = .ok (.imul, 1) := by decide +kernel
theorem dX5_bringsBy_6 : decode cX5_bringsBy 6 = .ok (.iload_n 3, 1) := by decide +kernel
theorem dX5_bringsBy_7 : decode cX5_bringsBy 7 = .ok (.idiv, 1) := by decide +kernel
theorem dX5_bringsBy_8 : decode cX5_bringsBy 8 = .ok (.istore 4, 2) := by decide +kernel
theorem dX5_bringsBy_10 : decode cX5_bringsBy 10 = .ok (.bipush 60, 2) := by decide +kernel
theorem dX5_bringsBy_12 : decode cX5_bringsBy 12 = .ok (.iload_n 1, 1) := by decide +kernel
theorem dX5_bringsBy_13 : decode cX5_bringsBy 13 = .ok (.imul, 1) := by decide +kernel
theorem dX5_bringsBy_14 : decode cX5_bringsBy 14 = .ok (.iload_n 2, 1) := by decide +kernel
theorem dX5_bringsBy_15 : decode cX5_bringsBy 15 = .ok (.idiv, 1) := by decide +kernel
theorem dX5_bringsBy_16 : decode cX5_bringsBy 16 = .ok (.istore 5, 2) := by decide +kernel
theorem dX5_bringsBy_18 : decode cX5_bringsBy 18 = .ok (.iload 4, 2) := by decide +kernel
theorem dX5_bringsBy_20 : decode cX5_bringsBy 20 = .ok (.iload 5, 2) := by decide +kernel
theorem dX5_bringsBy_22 : decode cX5_bringsBy 22 = .ok (.if_icmp .ge 8, 3) := by decide +kernel
theorem dX5_bringsBy_25 : decode cX5_bringsBy 25 = .ok (.iload 4, 2) := by decide +kernel
theorem dX5_bringsBy_27 : decode cX5_bringsBy 27 = .ok (.goto 5, 3) := by decide +kernel
theorem dX5_bringsBy_30 : decode cX5_bringsBy 30 = .ok (.iload 5, 2) := by decide +kernel
theorem dX5_bringsBy_32 : decode cX5_bringsBy 32 = .ok (.ireturn, 1) := by decide +kernel
set_option maxRecDepth 20000 in
theorem ggX5_shuttle_X5_in : GoodIn wsX5_shuttle wsX5_in := goodIn_r _ [5] (by decide +kernel) (by decide +kernel)
set_option maxRecDepth 20000 in
theorem gX5_shuttle_X5_in : GoodIn wsX5_shuttle (va_wsS RX5 46 yX5_in wsX5_in) := goodIn_app (goodIn_of _ (by decide +kernel)) ggX5_shuttle_X5_in
set_option maxRecDepth 20000 in
theorem ggX5_shuttle_X5_areTimes : GoodIn wsX5_shuttle wsX5_areTimes := goodIn_r _ [8, 2, 3, 4, 5] (by decide +kernel) (by decide +kernel)
set_option maxRecDepth 20000 in
theorem gX5_shuttle_X5_areTimes : GoodIn wsX5_shuttle (va_wsS RX5 157 yX5_areTimes wsX5_areTimes) := goodIn_app (goodIn_of _ (by decide +kernel)) ggX5_shuttle_X5_areTimes
set_option maxRecDepth 20000 in
theorem ggX5_shuttle_X5_bringsBy : GoodIn wsX5_shuttle wsX5_bringsBy := goodIn_r _ [11] (by decide +kernel) (by decide +kernel)
set_option maxRecDepth 20000 in
theorem gX5_shuttle_X5_bringsBy : GoodIn wsX5_shuttle (va_wsS RX5 161 yX5_bringsBy wsX5_bringsBy) := goodIn_app (goodIn_of _ (by decide +kernel)) ggX5_shuttle_X5_bringsBy
set_option maxRecDepth 20000 in
theorem ggX5_shuttle_X5_refuse : GoodIn wsX5_shuttle wsX5_refuse := goodIn_r _ [15, 16, 1, 17, 18, 19, 20, 21, 22, 23, 24, 25, 26, 27, 28, 29, 30, 31, 32] (by decide +kernel) (by decide +kernel)
set_option maxRecDepth 20000 in
theorem gX5_shuttle_X5_refuse : GoodIn wsX5_shuttle (wsV RX5 129 RX5 yX5_refuse wsX5_refuse) := goodIn_app (goodIn_of _ (by decide +kernel)) ggX5_shuttle_X5_refuse
theorem dX5_shuttle_0 : decode cX5_shuttle 0 = .ok (.iload_n 1, 1) := by decide +kernel
theorem dX5_shuttle_1 : decode cX5_shuttle 1 = .ok (.iconst 1, 1) := by decide +kernel
theorem dX5_shuttle_2 : decode cX5_shuttle 2 = .ok (.bipush 20, 2) := by decide +kernel
theorem dX5_shuttle_4 : decode cX5_shuttle 4 = .ok (.invokestatic 46, 3) := by decide +kernel
theorem dX5_shuttle_7 : decode cX5_shuttle 7 = .ok (.ifCond .eq 33, 3) := by decide +kernel
theorem dX5_shuttle_10 : decode cX5_shuttle 10 = .ok (.iload_n 2, 1) := by decide +kernel
theorem dX5_shuttle_11 : decode cX5_shuttle 11 = .ok (.iload_n 3, 1) := by decide +kernel
theorem dX5_shuttle_12 : decode cX5_shuttle 12 = .ok (.iload 4, 2) := by decide +kernel
theorem dX5_shuttle_14 : decode cX5_shuttle 14 = .ok (.iload 5, 2) := by decide +kernel
theorem dX5_shuttle_16 : decode cX5_shuttle 16 = .ok (.invokestatic 157, 3) := by decide +kernel
theorem dX5_shuttle_19 : decode cX5_shuttle 19 = .ok (.ifCond .eq 21, 3) := by decide +kernel
theorem dX5_shuttle_22 : decode cX5_shuttle 22 = .ok (.iload_n 1, 1) := by decide +kernel
theorem dX5_shuttle_23 : decode cX5_shuttle 23 = .ok (.iload_n 2, 1) := by decide +kernel
theorem dX5_shuttle_24 : decode cX5_shuttle 24 = .ok (.iload_n 3, 1) := by decide +kernel
theorem dX5_shuttle_25 : decode cX5_shuttle 25 = .ok (.iload_n 3, 1) := by decide +kernel
theorem dX5_shuttle_26 : decode cX5_shuttle 26 = .ok (.iconst 2, 1) := by decide +kernel
theorem dX5_shuttle_27 : decode cX5_shuttle 27 = .ok (.iload 4, 2) := by decide +kernel
theorem dX5_shuttle_29 : decode cX5_shuttle 29 = .ok (.imul, 1) := by decide +kernel
theorem dX5_shuttle_30 : decode cX5_shuttle 30 = .ok (.iadd, 1) := by decide +kernel
theorem dX5_shuttle_31 : decode cX5_shuttle 31 = .ok (.iload 5, 2) := by decide +kernel
theorem dX5_shuttle_33 : decode cX5_shuttle 33 = .ok (.iadd, 1) := by decide +kernel
theorem dX5_shuttle_34 : decode cX5_shuttle 34 = .ok (.invokestatic 161, 3) := by decide +kernel
theorem dX5_shuttle_37 : decode cX5_shuttle 37 = .ok (.goto 9, 3) := by decide +kernel
theorem dX5_shuttle_40 : decode cX5_shuttle 40 = .ok (.aload_n 0, 1) := by decide +kernel
theorem dX5_shuttle_41 : decode cX5_shuttle 41 = .ok (.ldc 37, 2) := by decide +kernel
theorem dX5_shuttle_43 : decode cX5_shuttle 43 = .ok (.invokevirtual 129, 3) := by decide +kernel
theorem dX5_shuttle_46 : decode cX5_shuttle 46 = .ok (.ireturn, 1) := by decide +kernel
set_option maxRecDepth 20000 in
theorem ggX5_tanks_X5_in : GoodIn wsX5_tanks wsX5_in := goodIn_r _ [6] (by decide +kernel) (by decide +kernel)
set_option maxRecDepth 20000 in
theorem gX5_tanks_X5_in : GoodIn wsX5_tanks (va_wsS RX5 46 yX5_in wsX5_in) := goodIn_app (goodIn_of _ (by decide +kernel)) ggX5_tanks_X5_in
set_option maxRecDepth 20000 in
theorem ggX5_tanks_X5_areTimes : GoodIn wsX5_tanks wsX5_areTimes := goodIn_r _ [9, 3, 4, 5, 6] (by decide +kernel) (by decide +kernel)
set_option maxRecDepth 20000 in
theorem gX5_tanks_X5_areTimes : GoodIn wsX5_tanks (va_wsS RX5 157 yX5_areTimes wsX5_areTimes) := goodIn_app (goodIn_of _ (by decide +kernel)) ggX5_tanks_X5_areTimes
set_option maxRecDepth 20000 in
theorem ggX5_tanks_X5_refuse : GoodIn wsX5_tanks wsX5_refuse := goodIn_r _ [13, 14, 1, 18, 19, 20, 21, 22, 23, 24, 25, 26, 27, 28, 29, 30, 31, 32, 33] (by decide +kernel) (by decide +kernel)
set_option maxRecDepth 20000 in
theorem gX5_tanks_X5_refuse : GoodIn wsX5_tanks (wsV RX5 129 RX5 yX5_refuse wsX5_refuse) := goodIn_app (goodIn_of _ (by decide +kernel)) ggX5_tanks_X5_refuse
set_option maxRecDepth 20000 in
theorem ggX5_tanks_X5_bringsBy : GoodIn wsX5_tanks wsX5_bringsBy := goodIn_r _ [17] (by decide +kernel) (by decide +kernel)
set_option maxRecDepth 20000 in
theorem gX5_tanks_X5_bringsBy : GoodIn wsX5_tanks (va_wsS RX5 161 yX5_bringsBy wsX5_bringsBy) := goodIn_app (goodIn_of _ (by decide +kernel)) ggX5_tanks_X5_bringsBy
theorem dX5_tanks_0 : decode cX5_tanks 0 = .ok (.iload_n 1, 1) := by decide +kernel
theorem dX5_tanks_1 : decode cX5_tanks 1 = .ok (.iconst 1, 1) := by decide +kernel
theorem dX5_tanks_2 : decode cX5_tanks 2 = .ok (.sipush 9999, 3) := by decide +kernel
theorem dX5_tanks_5 : decode cX5_tanks 5 = .ok (.invokestatic 46, 3) := by decide +kernel
theorem dX5_tanks_8 : decode cX5_tanks 8 = .ok (.ifCond .eq 15, 3) := by decide +kernel
theorem dX5_tanks_11 : decode cX5_tanks 11 = .ok (.iload_n 2, 1) := by decide +kernel
theorem dX5_tanks_12 : decode cX5_tanks 12 = .ok (.iload_n 3, 1) := by decide +kernel
theorem dX5_tanks_13 : decode cX5_tanks 13 = .ok (.iload 4, 2) := by decide +kernel
theorem dX5_tanks_15 : decode cX5_tanks 15 = .ok (.iload 5, 2) := by decide +kernel
theorem dX5_tanks_17 : decode cX5_tanks 17 = .ok (.invokestatic 157, 3) := by decide +kernel
theorem dX5_tanks_20 : decode cX5_tanks 20 = .ok (.ifCond .ne 10, 3) := by decide +kernel
theorem dX5_tanks_23 : decode cX5_tanks 23 = .ok (.aload_n 0, 1) := by decide +kernel
theorem dX5_tanks_24 : decode cX5_tanks 24 = .ok (.ldc 37, 2) := by decide +kernel
theorem dX5_tanks_26 : decode cX5_tanks 26 = .ok (.invokevirtual 129, 3) := by decide +kernel
theorem dX5_tanks_29 : decode cX5_tanks 29 = .ok (.ireturn, 1) := by decide +kernel
theorem dX5_tanks_30 : decode cX5_tanks 30 = .ok (.iconst 1, 1) := by decide +kernel
theorem dX5_tanks_31 : decode cX5_tanks 31 = .ok (.istore 6, 2) := by decide +kernel
theorem dX5_tanks_33 : decode cX5_tanks 33 = .ok (.iload 6, 2) := by decide +kernel
theorem dX5_tanks_35 : decode cX5_tanks 35 = .ok (.bipush 20, 2) := by decide +kernel
theorem dX5_tanks_37 : decode cX5_tanks 37 = .ok (.if_icmp .gt 32, 3) := by decide +kernel
theorem dX5_tanks_40 : decode cX5_tanks 40 = .ok (.iload 6, 2) := by decide +kernel
theorem dX5_tanks_42 : decode cX5_tanks 42 = .ok (.iload_n 2, 1) := by decide +kernel
theorem dX5_tanks_43 : decode cX5_tanks 43 = .ok (.iload_n 3, 1) := by decide +kernel
theorem dX5_tanks_44 : decode cX5_tanks 44 = .ok (.iload_n 3, 1) := by decide +kernel
theorem dX5_tanks_45 : decode cX5_tanks 45 = .ok (.iconst 2, 1) := by decide +kernel
theorem dX5_tanks_46 : decode cX5_tanks 46 = .ok (.iload 4, 2) := by decide +kernel
theorem dX5_tanks_48 : decode cX5_tanks 48 = .ok (.imul, 1) := by decide +kernel
theorem dX5_tanks_49 : decode cX5_tanks 49 = .ok (.iadd, 1) := by decide +kernel
theorem dX5_tanks_50 : decode cX5_tanks 50 = .ok (.iload 5, 2) := by decide +kernel
theorem dX5_tanks_52 : decode cX5_tanks 52 = .ok (.iadd, 1) := by decide +kernel
theorem dX5_tanks_53 : decode cX5_tanks 53 = .ok (.invokestatic 161, 3) := by decide +kernel
theorem dX5_tanks_56 : decode cX5_tanks 56 = .ok (.iload_n 1, 1) := by decide +kernel
theorem dX5_tanks_57 : decode cX5_tanks 57 = .ok (.if_icmp .lt 6, 3) := by decide +kernel
theorem dX5_tanks_60 : decode cX5_tanks 60 = .ok (.iload 6, 2) := by decide +kernel
theorem dX5_tanks_62 : decode cX5_tanks 62 = .ok (.ireturn, 1) := by decide +kernel
theorem dX5_tanks_63 : decode cX5_tanks 63 = .ok (.iinc 6 1, 3) := by decide +kernel
theorem dX5_tanks_66 : decode cX5_tanks 66 = .ok (.goto (-33), 3) := by decide +kernel
theorem dX5_tanks_69 : decode cX5_tanks 69 = .ok (.ldc 74, 2) := by decide +kernel
theorem dX5_tanks_71 : decode cX5_tanks 71 = .ok (.ireturn, 1) := by decide +kernel
set_option maxRecDepth 20000 in
theorem ggX5_type_X5_in : GoodIn wsX5_type wsX5_in := goodIn_r _ [8] (by decide +kernel) (by decide +kernel)
set_option maxRecDepth 20000 in
theorem gX5_type_X5_in : GoodIn wsX5_type (va_wsS RX5 46 yX5_in wsX5_in) := goodIn_app (goodIn_of _ (by decide +kernel)) ggX5_type_X5_in
set_option maxRecDepth 20000 in
theorem ggX5_type_X5_refuse : GoodIn wsX5_type wsX5_refuse := goodIn_r _ [12, 13, 1, 14, 15, 16, 17, 18, 19, 20, 21, 22, 23, 24, 25, 26, 27, 28, 29] (by decide +kernel) (by decide +kernel)
set_option maxRecDepth 20000 in
theorem gX5_type_X5_refuse : GoodIn wsX5_type (wsV RX5 129 RX5 yX5_refuse wsX5_refuse) := goodIn_app (goodIn_of _ (by decide +kernel)) ggX5_type_X5_refuse
theorem dX5_type_0 : decode cX5_type 0 = .ok (.iload_n 1, 1) := by decide +kernel
theorem dX5_type_1 : decode cX5_type 1 = .ok (.iconst 0, 1) := by decide +kernel
theorem dX5_type_2 : decode cX5_type 2 = .ok (.bipush 127, 2) := by decide +kernel
theorem dX5_type_4 : decode cX5_type 4 = .ok (.invokestatic 46, 3) := by decide +kernel
theorem dX5_type_7 : decode cX5_type 7 = .ok (.ifCond .ne 10, 3) := by decide +kernel
theorem dX5_type_10 : decode cX5_type 10 = .ok (.aload_n 0, 1) := by decide +kernel
theorem dX5_type_11 : decode cX5_type 11 = .ok (.ldc 37, 2) := by decide +kernel
theorem dX5_type_13 : decode cX5_type 13 = .ok (.invokevirtual 129, 3) := by decide +kernel
theorem dX5_type_16 : decode cX5_type 16 = .ok (.ireturn, 1) := by decide +kernel
theorem dX5_type_17 : decode cX5_type 17 = .ok (.aload_n 0, 1) := by decide +kernel
theorem dX5_type_18 : decode cX5_type 18 = .ok (.getfield 165, 3) := by decide +kernel
theorem dX5_type_21 : decode cX5_type 21 = .ok (.bipush 120, 2) := by decide +kernel
theorem dX5_type_23 : decode cX5_type 23 = .ok (.if_icmp .ne 10, 3) := by decide +kernel
theorem dX5_type_26 : decode cX5_type 26 = .ok (.aload_n 0, 1) := by decide +kernel
theorem dX5_type_27 : decode cX5_type 27 = .ok (.ldc 99, 2) := by decide +kernel
theorem dX5_type_29 : decode cX5_type 29 = .ok (.invokevirtual 129, 3) := by decide +kernel
theorem dX5_type_32 : decode cX5_type 32 = .ok (.ireturn, 1) := by decide +kernel
theorem dX5_type_33 : decode cX5_type 33 = .ok (.aload_n 0, 1) := by decide +kernel
theorem dX5_type_34 : decode cX5_type 34 = .ok (.getfield 22, 3) := by decide +kernel
theorem dX5_type_37 : decode cX5_type 37 = .ok (.aload_n 0, 1) := by decide +kernel
theorem dX5_type_38 : decode cX5_type 38 = .ok (.getfield 165, 3) := by decide +kernel
theorem dX5_type_41 : decode cX5_type 41 = .ok (.iload_n 1, 1) := by decide +kernel
theorem dX5_type_42 : decode cX5_type 42 = .ok (.iastore, 1) := by decide +kernel
theorem dX5_type_43 : decode cX5_type 43 = .ok (.aload_n 0, 1) := by decide +kernel
theorem dX5_type_44 : decode cX5_type 44 = .ok (.dup, 1) := by decide +kernel
theorem dX5_type_45 : decode cX5_type 45 = .ok (.getfield 165, 3) := by decide +kernel
theorem dX5_type_48 : decode cX5_type 48 = .ok (.iconst 1, 1) := by decide +kernel
theorem dX5_type_49 : decode cX5_type 49 = .ok (.iadd, 1) := by decide +kernel
theorem dX5_type_50 : decode cX5_type 50 = .ok (.putfield 165, 3) := by decide +kernel
theorem dX5_type_53 : decode cX5_type 53 = .ok (.aload_n 0, 1) := by decide +kernel
theorem dX5_type_54 : decode cX5_type 54 = .ok (.getfield 165, 3) := by decide +kernel
theorem dX5_type_57 : decode cX5_type 57 = .ok (.ireturn, 1) := by decide +kernel
theorem dX5_clear_0 : decode cX5_clear 0 = .ok (.aload_n 0, 1) := by decide +kernel
theorem dX5_clear_1 : decode cX5_clear 1 = .ok (.getfield 165, 3) := by decide +kernel
theorem dX5_clear_4 : decode cX5_clear 4 = .ok (.istore_n 1, 1) := by decide +kernel
theorem dX5_clear_5 : decode cX5_clear 5 = .ok (.aload_n 0, 1) := by decide +kernel
theorem dX5_clear_6 : decode cX5_clear 6 = .ok (.iconst 0, 1) := by decide +kernel
theorem dX5_clear_7 : decode cX5_clear 7 = .ok (.putfield 165, 3) := by decide +kernel
theorem dX5_clear_10 : decode cX5_clear 10 = .ok (.iload_n 1, 1) := by decide +kernel
theorem dX5_clear_11 : decode cX5_clear 11 = .ok (.ireturn, 1) := by decide +kernel
theorem dX5_skip_0 : decode cX5_skip 0 = .ok (.aload_n 0, 1) := by decide +kernel
theorem dX5_skip_1 : decode cX5_skip 1 = .ok (.getfield 168, 3) := by decide +kernel
theorem dX5_skip_4 : decode cX5_skip 4 = .ok (.aload_n 0, 1) := by decide +kernel
theorem dX5_skip_5 : decode cX5_skip 5 = .ok (.getfield 165, 3) := by decide +kernel
theorem dX5_skip_8 : decode cX5_skip 8 = .ok (.if_icmp .ge 30, 3) := by decide +kernel
theorem dX5_skip_11 : decode cX5_skip 11 = .ok (.aload_n 0, 1) := by decide +kernel
theorem dX5_skip_12 : decode cX5_skip 12 = .ok (.getfield 22, 3) := by decide +kernel
theorem dX5_skip_15 : decode cX5_skip 15 = .ok (.aload_n 0, 1) := by decide +kernel
theorem dX5_skip_16 : decode cX5_skip 16 = .ok (.getfield 168, 3) := by decide +kernel
theorem dX5_skip_19 : decode cX5_skip 19 = .ok (.iaload, 1) := by decide +kernel
theorem dX5_skip_20 : decode cX5_skip 20 = .ok (.bipush 32, 2) := by decide +kernel
theorem dX5_skip_22 : decode cX5_skip 22 = .ok (.if_icmp .ne 16, 3) := by decide +kernel
theorem dX5_skip_25 : decode cX5_skip 25 = .ok (.aload_n 0, 1) := by decide +kernel
theorem dX5_skip_26 : decode cX5_skip 26 = .ok (.dup, 1) := by decide +kernel
theorem dX5_skip_27 : decode cX5_skip 27 = .ok (.getfield 168, 3) := by decide +kernel
theorem dX5_skip_30 : decode cX5_skip 30 = .ok (.iconst 1, 1) := by decide +kernel
theorem dX5_skip_31 : decode cX5_skip 31 = .ok (.iadd, 1) := by decide +kernel
theorem dX5_skip_32 : decode cX5_skip 32 = .ok (.putfield 168, 3) := by decide +kernel
theorem dX5_skip_35 : decode cX5_skip 35 = .ok (.goto (-35), 3) := by decide +kernel
theorem dX5_skip_38 : decode cX5_skip 38 = .ok (.return_, 1) := by decide +kernel
set_option maxRecDepth 20000 in
theorem ggX5_isFigure_X5_in : GoodIn wsX5_isFigure wsX5_in := goodIn_r _ [7] (by decide +kernel) (by decide +kernel)
set_option maxRecDepth 20000 in
theorem gX5_isFigure_X5_in : GoodIn wsX5_isFigure (va_wsS RX5 46 yX5_in wsX5_in) := goodIn_app (goodIn_of _ (by decide +kernel)) ggX5_isFigure_X5_in
theorem dX5_isFigure_0 : decode cX5_isFigure 0 = .ok (.aload_n 0, 1) := by decide +kernel
theorem dX5_isFigure_1 : decode cX5_isFigure 1 = .ok (.getfield 168, 3) := by decide +kernel
theorem dX5_isFigure_4 : decode cX5_isFigure 4 = .ok (.aload_n 0, 1) := by decide +kernel
theorem dX5_isFigure_5 : decode cX5_isFigure 5 = .ok (.getfield 165, 3) := by decide +kernel
theorem dX5_isFigure_8 : decode cX5_isFigure 8 = .ok (.if_icmp .ge 26, 3) := by decide +kernel
theorem dX5_isFigure_11 : decode cX5_isFigure 11 = .ok (.aload_n 0, 1) := by decide +kernel
theorem dX5_isFigure_12 : decode cX5_isFigure 12 = .ok (.getfield 22, 3) := by decide +kernel
theorem dX5_isFigure_15 : decode cX5_isFigure 15 = .ok (.aload_n 0, 1) := by decide +kernel
theorem dX5_isFigure_16 : decode cX5_isFigure 16 = .ok (.getfield 168, 3) := by decide +kernel
theorem dX5_isFigure_19 : decode cX5_isFigure 19 = .ok (.iaload, 1) := by decide +kernel
theorem dX5_isFigure_20 : decode cX5_isFigure 20 = .ok (.bipush 48, 2) := by decide +kernel
theorem dX5_isFigure_22 : decode cX5_isFigure 22 = .ok (.bipush 57, 2) := by decide +kernel
theorem dX5_isFigure_24 : decode cX5_isFigure 24 = .ok (.invokestatic 46, 3) := by decide +kernel
theorem dX5_isFigure_27 : decode cX5_isFigure 27 = .ok (.ifCond .eq 7, 3) := by decide +kernel
theorem dX5_isFigure_30 : decode cX5_isFigure 30 = .ok (.iconst 1, 1) := by decide +kernel
theorem dX5_isFigure_31 : decode cX5_isFigure 31 = .ok (.goto 4, 3) := by decide +kernel
theorem dX5_isFigure_34 : decode cX5_isFigure 34 = .ok (.iconst 0, 1) := by decide +kernel
theorem dX5_isFigure_35 : decode cX5_isFigure 35 = .ok (.ireturn, 1) := by decide +kernel
set_option maxRecDepth 20000 in
theorem ggX5_readNumber_X5_skip : GoodIn wsX5_readNumber wsX5_skip := goodIn_r _ [9, 1, 2, 3, 17, 18, 19, 20, 21, 22, 23, 24, 25, 26, 27, 28, 29, 30, 31, 32] (by decide +kernel) (by decide +kernel)
set_option maxRecDepth 20000 in
theorem gX5_readNumber_X5_skip : GoodIn wsX5_readNumber (wsV RX5 171 RX5 yX5_skip wsX5_skip) := goodIn_app (goodIn_of _ (by decide +kernel)) ggX5_readNumber_X5_skip
set_option maxRecDepth 20000 in
theorem ggX5_readNumber_X5_isFigure : GoodIn wsX5_readNumber wsX5_isFigure := goodIn_r _ [13, 1, 2, 3, 14, 15, 8, 16, 17, 18, 19, 20, 21, 22, 23, 24, 25, 26, 27, 28, 29, 30, 31, 32] (by decide +kernel) (by decide +kernel)
set_option maxRecDepth 20000 in
theorem gX5_readNumber_X5_isFigure : GoodIn wsX5_readNumber (wsV RX5 174 RX5 yX5_isFigure wsX5_isFigure) := goodIn_app (goodIn_of _ (by decide +kernel)) ggX5_readNumber_X5_isFigure
theorem dX5_readNumber_0 : decode cX5_readNumber 0 = .ok (.aload_n 0, 1) := by decide +kernel
theorem dX5_readNumber_1 : decode cX5_readNumber 1 = .ok (.invokevirtual 171, 3) := by decide +kernel
theorem dX5_readNumber_4 : decode cX5_readNumber 4 = .ok (.iload_n 2, 1) := by decide +kernel
theorem dX5_readNumber_5 : decode cX5_readNumber 5 = .ok (.ifCond .eq 32, 3) := by decide +kernel
theorem dX5_readNumber_8 : decode cX5_readNumber 8 = .ok (.aload_n 0, 1) := by decide +kernel
theorem dX5_readNumber_9 : decode cX5_readNumber 9 = .ok (.getfield 168, 3) := by decide +kernel
theorem dX5_readNumber_12 : decode cX5_readNumber 12 = .ok (.aload_n 0, 1) := by decide +kernel
theorem dX5_readNumber_13 : decode cX5_readNumber 13 = .ok (.getfield 165, 3) := by decide +kernel
theorem dX5_readNumber_16 : decode cX5_readNumber 16 = .ok (.if_icmp .ge 21, 3) := by decide +kernel
theorem dX5_readNumber_19 : decode cX5_readNumber 19 = .ok (.aload_n 0, 1) := by decide +kernel
theorem dX5_readNumber_20 : decode cX5_readNumber 20 = .ok (.getfield 22, 3) := by decide +kernel
theorem dX5_readNumber_23 : decode cX5_readNumber 23 = .ok (.aload_n 0, 1) := by decide +kernel
theorem dX5_readNumber_24 : decode cX5_readNumber 24 = .ok (.getfield 168, 3) := by decide +kernel
theorem dX5_readNumber_27 : decode cX5_readNumber 27 = .ok (.iaload, 1) := by decide +kernel
theorem dX5_readNumber_28 : decode cX5_readNumber 28 = .ok (.bipush 45, 2) := by decide +kernel
theorem dX5_readNumber_30 : decode cX5_readNumber 30 = .ok (.if_icmp .ne 7, 3) := by decide +kernel
theorem dX5_readNumber_33 : decode cX5_readNumber 33 = .ok (.iconst 1, 1) := by decide +kernel
theorem dX5_readNumber_34 : decode cX5_readNumber 34 = .ok (.goto 4, 3) := by decide +kernel
theorem dX5_readNumber_37 : decode cX5_readNumber 37 = .ok (.iconst 0, 1) := by decide +kernel
theorem dX5_readNumber_38 : decode cX5_readNumber 38 = .ok (.istore_n 3, 1) := by decide +kernel
theorem dX5_readNumber_39 : decode cX5_readNumber 39 = .ok (.aload_n 0, 1) := by decide +kernel
theorem dX5_readNumber_40 : decode cX5_readNumber 40 = .ok (.dup, 1) := by decide +kernel
theorem dX5_readNumber_41 : decode cX5_readNumber 41 = .ok (.getfield 168, 3) := by decide +kernel
theorem dX5_readNumber_44 : decode cX5_readNumber 44 = .ok (.iload_n 3, 1) := by decide +kernel
theorem dX5_readNumber_45 : decode cX5_readNumber 45 = .ok (.ifCond .eq 7, 3) := by decide +kernel
theorem dX5_readNumber_48 : decode cX5_readNumber 48 = .ok (.iconst 1, 1) := by decide +kernel
theorem dX5_readNumber_49 : decode cX5_readNumber 49 = .ok (.goto 4, 3) := by decide +kernel
theorem dX5_readNumber_52 : decode cX5_readNumber 52 = .ok (.iconst 0, 1) := by decide +kernel
theorem dX5_readNumber_53 : decode cX5_readNumber 53 = .ok (.iadd, 1) := by decide +kernel
theorem dX5_readNumber_54 : decode cX5_readNumber 54 = .ok (.putfield 168, 3) := by decide +kernel
theorem dX5_readNumber_57 : decode cX5_readNumber 57 = .ok (.aload_n 0, 1) := by decide +kernel
theorem dX5_readNumber_58 : decode cX5_readNumber 58 = .ok (.getfield 168, 3) := by decide +kernel
theorem dX5_readNumber_61 : decode cX5_readNumber 61 = .ok (.istore 4, 2) := by decide +kernel
theorem dX5_readNumber_63 : decode cX5_readNumber 63 = .ok (.iconst 0, 1) := by decide +kernel
theorem dX5_readNumber_64 : decode cX5_readNumber 64 = .ok (.istore 5, 2) := by decide +kernel
theorem dX5_readNumber_66 : decode cX5_readNumber 66 = .ok (.aload_n 0, 1) := by decide +kernel
theorem dX5_readNumber_67 : decode cX5_readNumber 67 = .ok (.invokevirtual 174, 3) := by decide +kernel
theorem dX5_readNumber_70 : decode cX5_readNumber 70 = .ok (.ifCond .eq 47, 3) := by decide +kernel
theorem dX5_readNumber_73 : decode cX5_readNumber 73 = .ok (.aload_n 0, 1) := by decide +kernel
theorem dX5_readNumber_74 : decode cX5_readNumber 74 = .ok (.getfield 168, 3) := by decide +kernel
theorem dX5_readNumber_77 : decode cX5_readNumber 77 = .ok (.iload 4, 2) := by decide +kernel
theorem dX5_readNumber_79 : decode cX5_readNumber 79 = .ok (.iconst 3, 1) := by decide +kernel
theorem dX5_readNumber_80 : decode cX5_readNumber 80 = .ok (.iadd, 1) := by decide +kernel
theorem dX5_readNumber_81 : decode cX5_readNumber 81 = .ok (.if_icmp .ge 36, 3) := by decide +kernel
theorem dX5_readNumber_84 : decode cX5_readNumber 84 = .ok (.bipush 10, 2) := by decide +kernel
theorem dX5_readNumber_86 : decode cX5_readNumber 86 = .ok (.iload 5, 2) := by decide +kernel
theorem dX5_readNumber_88 : decode cX5_readNumber 88 = .ok (.imul, 1) := by decide +kernel
theorem dX5_readNumber_89 : decode cX5_readNumber 89 = .ok (.aload_n 0, 1) := by decide +kernel
theorem dX5_readNumber_90 : decode cX5_readNumber 90 = .ok (.getfield 22, 3) := by decide +kernel
theorem dX5_readNumber_93 : decode cX5_readNumber 93 = .ok (.aload_n 0, 1) := by decide +kernel
theorem dX5_readNumber_94 : decode cX5_readNumber 94 = .ok (.getfield 168, 3) := by decide +kernel
theorem dX5_readNumber_97 : decode cX5_readNumber 97 = .ok (.iaload, 1) := by decide +kernel
theorem dX5_readNumber_98 : decode cX5_readNumber 98 = .ok (.iadd, 1) := by decide +kernel
theorem dX5_readNumber_99 : decode cX5_readNumber 99 = .ok (.bipush 48, 2) := by decide +kernel
theorem dX5_readNumber_101 : decode cX5_readNumber 101 = .ok (.isub, 1) := by decide +kernel
theorem dX5_readNumber_102 : decode cX5_readNumber 102 = .ok (.istore 5, 2) := by decide +kernel
theorem dX5_readNumber_104 : decode cX5_readNumber 104 = .ok (.aload_n 0, 1) := by decide +kernel
theorem dX5_readNumber_105 : decode cX5_readNumber 105 = .ok (.dup, 1) := by decide +kernel
theorem dX5_readNumber_106 : decode cX5_readNumber 106 = .ok (.getfield 168, 3) := by decide +kernel
theorem dX5_readNumber_109 : decode cX5_readNumber 109 = .ok (.iconst 1, 1) := by decide +kernel
theorem dX5_readNumber_110 : decode cX5_readNumber 110 = .ok (.iadd, 1) := by decide +kernel
theorem dX5_readNumber_111 : decode cX5_readNumber 111 = .ok (.putfield 168, 3) := by decide +kernel
theorem dX5_readNumber_114 : decode cX5_readNumber 114 = .ok (.goto (-48), 3) := by decide +kernel
theorem dX5_readNumber_117 : decode cX5_readNumber 117 = .ok (.aload_n 0, 1) := by decide +kernel
theorem dX5_readNumber_118 : decode cX5_readNumber 118 = .ok (.getfield 31, 3) := by decide +kernel
theorem dX5_readNumber_121 : decode cX5_readNumber 121 = .ok (.iload_n 1, 1) := by decide +kernel
theorem dX5_readNumber_122 : decode cX5_readNumber 122 = .ok (.iload_n 3, 1) := by decide +kernel
theorem dX5_readNumber_123 : decode cX5_readNumber 123 = .ok (.ifCond .eq 9, 3) := by decide +kernel
theorem dX5_readNumber_126 : decode cX5_readNumber 126 = .ok (.iload 5, 2) := by decide +kernel
theorem dX5_readNumber_128 : decode cX5_readNumber 128 = .ok (.ineg, 1) := by decide +kernel
theorem dX5_readNumber_129 : decode cX5_readNumber 129 = .ok (.goto 5, 3) := by decide +kernel
theorem dX5_readNumber_132 : decode cX5_readNumber 132 = .ok (.iload 5, 2) := by decide +kernel
theorem dX5_readNumber_134 : decode cX5_readNumber 134 = .ok (.iastore, 1) := by decide +kernel
theorem dX5_readNumber_135 : decode cX5_readNumber 135 = .ok (.aload_n 0, 1) := by decide +kernel
theorem dX5_readNumber_136 : decode cX5_readNumber 136 = .ok (.getfield 168, 3) := by decide +kernel
theorem dX5_readNumber_139 : decode cX5_readNumber 139 = .ok (.iload 4, 2) := by decide +kernel
theorem dX5_readNumber_141 : decode cX5_readNumber 141 = .ok (.if_icmp .le 14, 3) := by decide +kernel
theorem dX5_readNumber_144 : decode cX5_readNumber 144 = .ok (.aload_n 0, 1) := by decide +kernel
theorem dX5_readNumber_145 : decode cX5_readNumber 145 = .ok (.invokevirtual 174, 3) := by decide +kernel
theorem dX5_readNumber_148 : decode cX5_readNumber 148 = .ok (.ifCond .ne 7, 3) := by decide +kernel
theorem dX5_readNumber_151 : decode cX5_readNumber 151 = .ok (.iconst 1, 1) := by decide +kernel
theorem dX5_readNumber_152 : decode cX5_readNumber 152 = .ok (.goto 4, 3) := by decide +kernel
theorem dX5_readNumber_155 : decode cX5_readNumber 155 = .ok (.iconst 0, 1) := by decide +kernel
theorem dX5_readNumber_156 : decode cX5_readNumber 156 = .ok (.ireturn, 1) := by decide +kernel
theorem dX5_numbersOf_0 : decode cX5_numbersOf 0 = .ok (.iload_n 0, 1) := by decide +kernel
theorem dX5_numbersOf_1 : decode cX5_numbersOf 1 = .ok (.bipush 104, 2) := by decide +kernel
theorem dX5_numbersOf_3 : decode cX5_numbersOf 3 = .ok (.if_icmp .ne 7, 3) := by decide +kernel
theorem dX5_numbersOf_6 : decode cX5_numbersOf 6 = .ok (.iconst 4, 1) := by decide +kernel
theorem dX5_numbersOf_7 : decode cX5_numbersOf 7 = .ok (.goto 47, 3) := by decide +kernel
theorem dX5_numbersOf_10 : decode cX5_numbersOf 10 = .ok (.iload_n 0, 1) := by decide +kernel
theorem dX5_numbersOf_11 : decode cX5_numbersOf 11 = .ok (.bipush 107, 2) := by decide +kernel
theorem dX5_numbersOf_13 : decode cX5_numbersOf 13 = .ok (.if_icmp .ne 7, 3) := by decide +kernel
theorem dX5_numbersOf_16 : decode cX5_numbersOf 16 = .ok (.iconst 2, 1) := by decide +kernel
theorem dX5_numbersOf_17 : decode cX5_numbersOf 17 = .ok (.goto 37, 3) := by decide +kernel
theorem dX5_numbersOf_20 : decode cX5_numbersOf 20 = .ok (.iload_n 0, 1) := by decide +kernel
theorem dX5_numbersOf_21 : decode cX5_numbersOf 21 = .ok (.bipush 112, 2) := by decide +kernel
theorem dX5_numbersOf_23 : decode cX5_numbersOf 23 = .ok (.if_icmp .eq 15, 3) := by decide +kernel
theorem dX5_numbersOf_26 : decode cX5_numbersOf 26 = .ok (.iload_n 0, 1) := by decide +kernel
theorem dX5_numbersOf_27 : decode cX5_numbersOf 27 = .ok (.bipush 120, 2) := by decide +kernel
theorem dX5_numbersOf_29 : decode cX5_numbersOf 29 = .ok (.if_icmp .eq 9, 3) := by decide +kernel
theorem dX5_numbersOf_32 : decode cX5_numbersOf 32 = .ok (.iload_n 0, 1) := by decide +kernel
theorem dX5_numbersOf_33 : decode cX5_numbersOf 33 = .ok (.bipush 109, 2) := by decide +kernel
theorem dX5_numbersOf_35 : decode cX5_numbersOf 35 = .ok (.if_icmp .ne 7, 3) := by decide +kernel
theorem dX5_numbersOf_38 : decode cX5_numbersOf 38 = .ok (.iconst 1, 1) := by decide +kernel
theorem dX5_numbersOf_39 : decode cX5_numbersOf 39 = .ok (.goto 15, 3) := by decide +kernel
theorem dX5_numbersOf_42 : decode cX5_numbersOf 42 = .ok (.iload_n 0, 1) := by decide +kernel
theorem dX5_numbersOf_43 : decode cX5_numbersOf 43 = .ok (.bipush 99, 2) := by decide +kernel
theorem dX5_numbersOf_45 : decode cX5_numbersOf 45 = .ok (.if_icmp .ne 7, 3) := by decide +kernel
theorem dX5_numbersOf_48 : decode cX5_numbersOf 48 = .ok (.iconst 0, 1) := by decide +kernel
theorem dX5_numbersOf_49 : decode cX5_numbersOf 49 = .ok (.goto 5, 3) := by decide +kernel
theorem dX5_numbersOf_52 : decode cX5_numbersOf 52 = .ok (.ldc 74, 2) := by decide +kernel
theorem dX5_numbersOf_54 : decode cX5_numbersOf 54 = .ok (.ireturn, 1) := by decide +kernel
set_option maxRecDepth 20000 in
theorem ggX5_readOrder_X5_numbersOf : GoodIn wsX5_readOrder wsX5_numbersOf := goodIn_r _ [8, 1] (by decide +kernel) (by decide +kernel)
set_option maxRecDepth 20000 in
theorem gX5_readOrder_X5_numbersOf : GoodIn wsX5_readOrder (va_wsS RX5 178 yX5_numbersOf wsX5_numbersOf) := goodIn_app (goodIn_of _ (by decide +kernel)) ggX5_readOrder_X5_numbersOf
set_option maxRecDepth 20000 in
theorem ggX5_readOrder_X5_readNumber : GoodIn wsX5_readOrder wsX5_readNumber := goodIn_r _ [12, 2, 3, 4, 13, 14, 15, 16, 7, 17, 18, 19, 20, 21, 22, 23, 24, 25, 26, 27, 28, 29, 30, 31, 32, 33, 34, 35, 36, 37, 38, 39, 40] (by decide +kernel) (by decide +kernel)
set_option maxRecDepth 20000 in
theorem gX5_readOrder_X5_readNumber : GoodIn wsX5_readOrder (wsV RX5 181 RX5 yX5_readNumber wsX5_readNumber) := goodIn_app (goodIn_of _ (by decide +kernel)) ggX5_readOrder_X5_readNumber
set_option maxRecDepth 20000 in
theorem ggX5_readOrder_X5_skip : GoodIn wsX5_readOrder wsX5_skip := goodIn_r _ [17, 2, 3, 4, 25, 26, 27, 28, 29, 30, 31, 32, 33, 34, 35, 36, 37, 38, 39, 40] (by decide +kernel) (by decide +kernel)
set_option maxRecDepth 20000 in
theorem gX5_readOrder_X5_skip : GoodIn wsX5_readOrder (wsV RX5 171 RX5 yX5_skip wsX5_skip) := goodIn_app (goodIn_of _ (by decide +kernel)) ggX5_readOrder_X5_skip
theorem dX5_readOrder_0 : decode cX5_readOrder 0 = .ok (.iload_n 1, 1) := by decide +kernel
theorem dX5_readOrder_1 : decode cX5_readOrder 1 = .ok (.invokestatic 178, 3) := by decide +kernel
theorem dX5_readOrder_4 : decode cX5_readOrder 4 = .ok (.istore_n 2, 1) := by decide +kernel
theorem dX5_readOrder_5 : decode cX5_readOrder 5 = .ok (.iload_n 2, 1) := by decide +kernel
theorem dX5_readOrder_6 : decode cX5_readOrder 6 = .ok (.ldc 74, 2) := by decide +kernel
theorem dX5_readOrder_8 : decode cX5_readOrder 8 = .ok (.if_icmp .ne 5, 3) := by decide +kernel
theorem dX5_readOrder_11 : decode cX5_readOrder 11 = .ok (.iconst 0, 1) := by decide +kernel
theorem dX5_readOrder_12 : decode cX5_readOrder 12 = .ok (.ireturn, 1) := by decide +kernel
theorem dX5_readOrder_13 : decode cX5_readOrder 13 = .ok (.aload_n 0, 1) := by decide +kernel
theorem dX5_readOrder_14 : decode cX5_readOrder 14 = .ok (.dup, 1) := by decide +kernel
theorem dX5_readOrder_15 : decode cX5_readOrder 15 = .ok (.getfield 168, 3) := by decide +kernel
theorem dX5_readOrder_18 : decode cX5_readOrder 18 = .ok (.iconst 1, 1) := by decide +kernel
theorem dX5_readOrder_19 : decode cX5_readOrder 19 = .ok (.iadd, 1) := by decide +kernel
theorem dX5_readOrder_20 : decode cX5_readOrder 20 = .ok (.putfield 168, 3) := by decide +kernel
theorem dX5_readOrder_23 : decode cX5_readOrder 23 = .ok (.iconst 0, 1) := by decide +kernel
theorem dX5_readOrder_24 : decode cX5_readOrder 24 = .ok (.istore_n 3, 1) := by decide +kernel
theorem dX5_readOrder_25 : decode cX5_readOrder 25 = .ok (.iload_n 3, 1) := by decide +kernel
theorem dX5_readOrder_26 : decode cX5_readOrder 26 = .ok (.iload_n 2, 1) := by decide +kernel
theorem dX5_readOrder_27 : decode cX5_readOrder 27 = .ok (.if_icmp .ge 29, 3) := by decide +kernel
theorem dX5_readOrder_30 : decode cX5_readOrder 30 = .ok (.aload_n 0, 1) := by decide +kernel
theorem dX5_readOrder_31 : decode cX5_readOrder 31 = .ok (.iload_n 3, 1) := by decide +kernel
theorem dX5_readOrder_32 : decode cX5_readOrder 32 = .ok (.iload_n 3, 1) := by decide +kernel
theorem dX5_readOrder_33 : decode cX5_readOrder 33 = .ok (.iconst 2, 1) := by decide +kernel
theorem dX5_readOrder_34 : decode cX5_readOrder 34 = .ok (.if_icmp .ne 7, 3) := by decide +kernel
theorem dX5_readOrder_37 : decode cX5_readOrder 37 = .ok (.iconst 1, 1) := by decide +kernel
theorem dX5_readOrder_38 : decode cX5_readOrder 38 = .ok (.goto 4, 3) := by decide +kernel
theorem dX5_readOrder_41 : decode cX5_readOrder 41 = .ok (.iconst 0, 1) := by decide +kernel
theorem dX5_readOrder_42 : decode cX5_readOrder 42 = .ok (.invokevirtual 181, 3) := by decide +kernel
theorem dX5_readOrder_45 : decode cX5_readOrder 45 = .ok (.ifCond .ne 5, 3) := by decide +kernel
theorem dX5_readOrder_48 : decode cX5_readOrder 48 = .ok (.iconst 0, 1) := by decide +kernel
theorem dX5_readOrder_49 : decode cX5_readOrder 49 = .ok (.ireturn, 1) := by decide +kernel
theorem dX5_readOrder_50 : decode cX5_readOrder 50 = .ok (.iinc 3 1, 3) := by decide +kernel
theorem dX5_readOrder_53 : decode cX5_readOrder 53 = .ok (.goto (-28), 3) := by decide +kernel
theorem dX5_readOrder_56 : decode cX5_readOrder 56 = .ok (.aload_n 0, 1) := by decide +kernel
theorem dX5_readOrder_57 : decode cX5_readOrder 57 = .ok (.invokevirtual 171, 3) := by decide +kernel
theorem dX5_readOrder_60 : decode cX5_readOrder 60 = .ok (.aload_n 0, 1) := by decide +kernel
theorem dX5_readOrder_61 : decode cX5_readOrder 61 = .ok (.getfield 168, 3) := by decide +kernel
theorem dX5_readOrder_64 : decode cX5_readOrder 64 = .ok (.aload_n 0, 1) := by decide +kernel
theorem dX5_readOrder_65 : decode cX5_readOrder 65 = .ok (.getfield 165, 3) := by decide +kernel
theorem dX5_readOrder_68 : decode cX5_readOrder 68 = .ok (.if_icmp .eq 17, 3) := by decide +kernel
theorem dX5_readOrder_71 : decode cX5_readOrder 71 = .ok (.aload_n 0, 1) := by decide +kernel
theorem dX5_readOrder_72 : decode cX5_readOrder 72 = .ok (.getfield 22, 3) := by decide +kernel
theorem dX5_readOrder_75 : decode cX5_readOrder 75 = .ok (.aload_n 0, 1) := by decide +kernel
theorem dX5_readOrder_76 : decode cX5_readOrder 76 = .ok (.getfield 168, 3) := by decide +kernel
theorem dX5_readOrder_79 : decode cX5_readOrder 79 = .ok (.iaload, 1) := by decide +kernel
theorem dX5_readOrder_80 : decode cX5_readOrder 80 = .ok (.bipush 59, 2) := by decide +kernel
theorem dX5_readOrder_82 : decode cX5_readOrder 82 = .ok (.if_icmp .eq 5, 3) := by decide +kernel
theorem dX5_readOrder_85 : decode cX5_readOrder 85 = .ok (.iconst 0, 1) := by decide +kernel
theorem dX5_readOrder_86 : decode cX5_readOrder 86 = .ok (.ireturn, 1) := by decide +kernel
theorem dX5_readOrder_87 : decode cX5_readOrder 87 = .ok (.aload_n 0, 1) := by decide +kernel
theorem dX5_readOrder_88 : decode cX5_readOrder 88 = .ok (.dup, 1) := by decide +kernel
theorem dX5_readOrder_89 : decode cX5_readOrder 89 = .ok (.getfield 168, 3) := by decide +kernel
theorem dX5_readOrder_92 : decode cX5_readOrder 92 = .ok (.iconst 1, 1) := by decide +kernel
theorem dX5_readOrder_93 : decode cX5_readOrder 93 = .ok (.iadd, 1) := by decide +kernel
theorem dX5_readOrder_94 : decode cX5_readOrder 94 = .ok (.putfield 168, 3) := by decide +kernel
theorem dX5_readOrder_97 : decode cX5_readOrder 97 = .ok (.aload_n 0, 1) := by decide +kernel
theorem dX5_readOrder_98 : decode cX5_readOrder 98 = .ok (.invokevirtual 171, 3) := by decide +kernel
theorem dX5_readOrder_101 : decode cX5_readOrder 101 = .ok (.iconst 1, 1) := by decide +kernel
theorem dX5_readOrder_102 : decode cX5_readOrder 102 = .ok (.ireturn, 1) := by decide +kernel
set_option maxRecDepth 20000 in
theorem ggX5_findFault_X5_skip : GoodIn wsX5_findFault wsX5_skip := goodIn_r _ [9, 1, 2, 3, 29, 30, 31, 32, 33, 34, 35, 36, 37, 38, 39, 40, 41, 42, 43, 44] (by decide +kernel) (by decide +kernel)
set_option maxRecDepth 20000 in
theorem gX5_findFault_X5_skip : GoodIn wsX5_findFault (wsV RX5 171 RX5 yX5_skip wsX5_skip) := goodIn_app (goodIn_of _ (by decide +kernel)) ggX5_findFault_X5_skip
set_option maxRecDepth 20000 in
theorem ggX5_findFault_X5_readOrder : GoodIn wsX5_findFault wsX5_readOrder := goodIn_r _ [13, 4, 1, 2, 3, 14, 15, 8, 16, 17, 18, 19, 20, 21, 5, 6, 7, 9, 22, 23, 24, 25, 26, 27, 28, 29, 30, 31, 32, 33, 34, 35, 36, 37, 38, 39, 40, 41, 42, 43, 44] (by decide +kernel) (by decide +kernel)
set_option maxRecDepth 20000 in
theorem gX5_findFault_X5_readOrder : GoodIn wsX5_findFault (wsV RX5 185 RX5 yX5_readOrder wsX5_readOrder) := goodIn_app (goodIn_of _ (by decide +kernel)) ggX5_findFault_X5_readOrder
theorem dX5_findFault_0 : decode cX5_findFault 0 = .ok (.aload_n 0, 1) := by decide +kernel
theorem dX5_findFault_1 : decode cX5_findFault 1 = .ok (.iconst 0, 1) := by decide +kernel
theorem dX5_findFault_2 : decode cX5_findFault 2 = .ok (.putfield 168, 3) := by decide +kernel
theorem dX5_findFault_5 : decode cX5_findFault 5 = .ok (.aload_n 0, 1) := by decide +kernel
theorem dX5_findFault_6 : decode cX5_findFault 6 = .ok (.invokevirtual 171, 3) := by decide +kernel
theorem dX5_findFault_9 : decode cX5_findFault 9 = .ok (.aload_n 0, 1) := by decide +kernel
theorem dX5_findFault_10 : decode cX5_findFault 10 = .ok (.getfield 168, 3) := by decide +kernel
theorem dX5_findFault_13 : decode cX5_findFault 13 = .ok (.aload_n 0, 1) := by decide +kernel
theorem dX5_findFault_14 : decode cX5_findFault 14 = .ok (.getfield 165, 3) := by decide +kernel
theorem dX5_findFault_17 : decode cX5_findFault 17 = .ok (.if_icmp .ge 7, 3) := by decide +kernel
theorem dX5_findFault_20 : decode cX5_findFault 20 = .ok (.iconst 1, 1) := by decide +kernel
theorem dX5_findFault_21 : decode cX5_findFault 21 = .ok (.goto 4, 3) := by decide +kernel
theorem dX5_findFault_24 : decode cX5_findFault 24 = .ok (.iconst 0, 1) := by decide +kernel
theorem dX5_findFault_25 : decode cX5_findFault 25 = .ok (.istore_n 1, 1) := by decide +kernel
theorem dX5_findFault_26 : decode cX5_findFault 26 = .ok (.iload_n 1, 1) := by decide +kernel
theorem dX5_findFault_27 : decode cX5_findFault 27 = .ok (.ifCond .eq 31, 3) := by decide +kernel
theorem dX5_findFault_30 : decode cX5_findFault 30 = .ok (.aload_n 0, 1) := by decide +kernel
theorem dX5_findFault_31 : decode cX5_findFault 31 = .ok (.getfield 168, 3) := by decide +kernel
theorem dX5_findFault_34 : decode cX5_findFault 34 = .ok (.aload_n 0, 1) := by decide +kernel
theorem dX5_findFault_35 : decode cX5_findFault 35 = .ok (.getfield 165, 3) := by decide +kernel
theorem dX5_findFault_38 : decode cX5_findFault 38 = .ok (.if_icmp .ge 20, 3) := by decide +kernel
theorem dX5_findFault_41 : decode cX5_findFault 41 = .ok (.aload_n 0, 1) := by decide +kernel
theorem dX5_findFault_42 : decode cX5_findFault 42 = .ok (.aload_n 0, 1) := by decide +kernel
theorem dX5_findFault_43 : decode cX5_findFault 43 = .ok (.getfield 22, 3) := by decide +kernel
theorem dX5_findFault_46 : decode cX5_findFault 46 = .ok (.aload_n 0, 1) := by decide +kernel
theorem dX5_findFault_47 : decode cX5_findFault 47 = .ok (.getfield 168, 3) := by decide +kernel
theorem dX5_findFault_50 : decode cX5_findFault 50 = .ok (.iaload, 1) := by decide +kernel
theorem dX5_findFault_51 : decode cX5_findFault 51 = .ok (.invokevirtual 185, 3) := by decide +kernel
theorem dX5_findFault_54 : decode cX5_findFault 54 = .ok (.istore_n 1, 1) := by decide +kernel
theorem dX5_findFault_55 : decode cX5_findFault 55 = .ok (.goto (-29), 3) := by decide +kernel
theorem dX5_findFault_58 : decode cX5_findFault 58 = .ok (.iload_n 1, 1) := by decide +kernel
theorem dX5_findFault_59 : decode cX5_findFault 59 = .ok (.ifCond .eq 8, 3) := by decide +kernel
theorem dX5_findFault_62 : decode cX5_findFault 62 = .ok (.ldc 74, 2) := by decide +kernel
theorem dX5_findFault_64 : decode cX5_findFault 64 = .ok (.goto 7, 3) := by decide +kernel
theorem dX5_findFault_67 : decode cX5_findFault 67 = .ok (.aload_n 0, 1) := by decide +kernel
theorem dX5_findFault_68 : decode cX5_findFault 68 = .ok (.getfield 168, 3) := by decide +kernel
theorem dX5_findFault_71 : decode cX5_findFault 71 = .ok (.ireturn, 1) := by decide +kernel
