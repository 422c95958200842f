theorem dX5_adds_66 : decode cX5_adds 66 = .ok (.iload_n 1, 1) := by decide +kernel
theorem dX5_adds_67 : decode cX5_adds 67 = .ok (.iastore, 1) := by decide +kernel
theorem dX5_adds_68 : decode cX5_adds 68 = .ok (.aload_n 0, 1) := by decide +kernel
theorem dX5_adds_69 : decode cX5_adds 69 = .ok (.getfield 9, 3) := by decide +kernel
theorem dX5_adds_72 : decode cX5_adds 72 = .ok (.iload 4, 2) := by decide +kernel
theorem dX5_adds_74 : decode cX5_adds 74 = .ok (.iconst 1, 1) := by decide +kernel
theorem dX5_adds_75 : decode cX5_adds 75 = .ok (.invokestatic 45, 3) := by decide +kernel
theorem dX5_adds_78 : decode cX5_adds 78 = .ok (.iload_n 2, 1) := by decide +kernel
theorem dX5_adds_79 : decode cX5_adds 79 = .ok (.iastore, 1) := by decide +kernel
theorem dX5_adds_80 : decode cX5_adds 80 = .ok (.aload_n 0, 1) := by decide +kernel
theorem dX5_adds_81 : decode cX5_adds 81 = .ok (.getfield 9, 3) := by decide +kernel
theorem dX5_adds_84 : decode cX5_adds 84 = .ok (.iload 4, 2) := by decide +kernel
theorem dX5_adds_86 : decode cX5_adds 86 = .ok (.iconst 3, 1) := by decide +kernel
theorem dX5_adds_87 : decode cX5_adds 87 = .ok (.invokestatic 45, 3) := by decide +kernel
theorem dX5_adds_90 : decode cX5_adds 90 = .ok (.iload_n 3, 1) := by decide +kernel
theorem dX5_adds_91 : decode cX5_adds 91 = .ok (.iastore, 1) := by decide +kernel
theorem dX5_adds_92 : decode cX5_adds 92 = .ok (.aload_n 0, 1) := by decide +kernel
theorem dX5_adds_93 : decode cX5_adds 93 = .ok (.getfield 9, 3) := by decide +kernel
theorem dX5_adds_96 : decode cX5_adds 96 = .ok (.iconst 0, 1) := by decide +kernel
theorem dX5_adds_97 : decode cX5_adds 97 = .ok (.dup2, 1) := by decide +kernel
theorem dX5_adds_98 : decode cX5_adds 98 = .ok (.iaload, 1) := by decide +kernel
theorem dX5_adds_99 : decode cX5_adds 99 = .ok (.iconst 1, 1) := by decide +kernel
theorem dX5_adds_100 : decode cX5_adds 100 = .ok (.iadd, 1) := by decide +kernel
theorem dX5_adds_101 : decode cX5_adds 101 = .ok (.iastore, 1) := by decide +kernel
theorem dX5_adds_102 : decode cX5_adds 102 = .ok (.iconst 1, 1) := by decide +kernel
theorem dX5_adds_103 : decode cX5_adds 103 = .ok (.ireturn, 1) := by decide +kernel
set_option maxRecDepth 20000 in
theorem ggX5_isDone_X5_adds : GoodIn wsX5_isDone wsX5_adds := goodIn_r _ [7, 2, 8, 9, 6, 10, 48, 49, 50, 51, 52, 53, 54, 55, 56, 57, 58, 59, 60] (by decide +kernel) (by decide +kernel)
set_option maxRecDepth 20000 in
theorem gX5_isDone_X5_adds : GoodIn wsX5_isDone (wsV RX5 101 RX5 yX5_adds wsX5_adds) := goodIn_app (goodIn_of _ (by decide +kernel)) ggX5_isDone_X5_adds
set_option maxRecDepth 20000 in
theorem ggX5_isDone_X5_isOne : GoodIn wsX5_isDone wsX5_isOne := goodIn_r _ [14, 2, 15, 16, 6, 17, 48, 49, 50, 51, 52, 53, 54, 55, 56, 57, 58, 59, 60] (by decide +kernel) (by decide +kernel)
set_option maxRecDepth 20000 in
theorem gX5_isDone_X5_isOne : GoodIn wsX5_isDone (wsV RX5 104 RX5 yX5_isOne wsX5_isOne) := goodIn_app (goodIn_of _ (by decide +kernel)) ggX5_isDone_X5_isOne
set_option maxRecDepth 20000 in
theorem ggX5_isDone_X5_of : GoodIn wsX5_isDone wsX5_of := goodIn_r _ [10] (by decide +kernel) (by decide +kernel)
set_option maxRecDepth 20000 in
theorem gX5_isDone_X5_of : GoodIn wsX5_isDone (va_wsS RX5 45 yX5_of wsX5_of) := goodIn_app (goodIn_of _ (by decide +kernel)) ggX5_isDone_X5_of
set_option maxRecDepth 20000 in
theorem ggX5_isDone_X5_issuesIn : GoodIn wsX5_isDone wsX5_issuesIn := goodIn_r _ [20, 8, 9, 6, 10] (by decide +kernel) (by decide +kernel)
set_option maxRecDepth 20000 in
theorem gX5_isDone_X5_issuesIn : GoodIn wsX5_isDone (va_wsS RX5 108 yX5_issuesIn wsX5_issuesIn) := goodIn_app (goodIn_of _ (by decide +kernel)) ggX5_isDone_X5_issuesIn
set_option maxRecDepth 20000 in
theorem ggX5_isDone_X5_handsIn : GoodIn wsX5_isDone wsX5_handsIn := goodIn_r _ [23, 8, 9, 6, 10, 24, 25, 26, 27, 28, 29] (by decide +kernel) (by decide +kernel)
set_option maxRecDepth 20000 in
theorem gX5_isDone_X5_handsIn : GoodIn wsX5_isDone (va_wsS RX5 112 yX5_handsIn wsX5_handsIn) := goodIn_app (goodIn_of _ (by decide +kernel)) ggX5_isDone_X5_handsIn
set_option maxRecDepth 20000 in
theorem ggX5_isDone_X5_isIn : GoodIn wsX5_isDone wsX5_isIn := goodIn_r _ [17] (by decide +kernel) (by decide +kernel)
set_option maxRecDepth 20000 in
theorem gX5_isDone_X5_isIn : GoodIn wsX5_isDone (va_wsS RX5 41 yX5_isIn wsX5_isIn) := goodIn_app (goodIn_of _ (by decide +kernel)) ggX5_isDone_X5_isIn
set_option maxRecDepth 20000 in
theorem ggX5_isDone_X5_daysOn : GoodIn wsX5_isDone wsX5_daysOn := goodIn_r _ [32, 33, 34, 6, 35, 8, 9, 10, 36, 37, 38, 39, 40, 41, 24, 25, 26, 42, 43, 44, 27, 28, 29, 45, 46, 47] (by decide +kernel) (by decide +kernel)
set_option maxRecDepth 20000 in
theorem gX5_isDone_X5_daysOn : GoodIn wsX5_isDone (va_wsS RX5 73 yX5_daysOn wsX5_daysOn) := goodIn_app (goodIn_of _ (by decide +kernel)) ggX5_isDone_X5_daysOn
theorem dX5_isDone_0 : decode cX5_isDone 0 = .ok (.aload_n 0, 1) := by decide +kernel
theorem dX5_isDone_1 : decode cX5_isDone 1 = .ok (.getfield 31, 3) := by decide +kernel
theorem dX5_isDone_4 : decode cX5_isDone 4 = .ok (.iconst 0, 1) := by decide +kernel
theorem dX5_isDone_5 : decode cX5_isDone 5 = .ok (.iaload, 1) := by decide +kernel
theorem dX5_isDone_6 : decode cX5_isDone 6 = .ok (.istore_n 2, 1) := by decide +kernel
theorem dX5_isDone_7 : decode cX5_isDone 7 = .ok (.aload_n 0, 1) := by decide +kernel
theorem dX5_isDone_8 : decode cX5_isDone 8 = .ok (.getfield 31, 3) := by decide +kernel
theorem dX5_isDone_11 : decode cX5_isDone 11 = .ok (.iconst 1, 1) := by decide +kernel
theorem dX5_isDone_12 : decode cX5_isDone 12 = .ok (.iaload, 1) := by decide +kernel
theorem dX5_isDone_13 : decode cX5_isDone 13 = .ok (.istore_n 3, 1) := by decide +kernel
theorem dX5_isDone_14 : decode cX5_isDone 14 = .ok (.iload_n 1, 1) := by decide +kernel
theorem dX5_isDone_15 : decode cX5_isDone 15 = .ok (.tableswitch 211 103 117 #[183, 211, 86, 211, 211, 211, 211, 211, 211, 73, 211, 163, 211, 211, 134], 73) := by decide +kernel
theorem dX5_isDone_88 : decode cX5_isDone 88 = .ok (.aload_n 0, 1) := by decide +kernel
theorem dX5_isDone_89 : decode cX5_isDone 89 = .ok (.iload_n 2, 1) := by decide +kernel
theorem dX5_isDone_90 : decode cX5_isDone 90 = .ok (.iload_n 3, 1) := by decide +kernel
theorem dX5_isDone_91 : decode cX5_isDone 91 = .ok (.aload_n 0, 1) := by decide +kernel
theorem dX5_isDone_92 : decode cX5_isDone 92 = .ok (.getfield 31, 3) := by decide +kernel
theorem dX5_isDone_95 : decode cX5_isDone 95 = .ok (.iconst 2, 1) := by decide +kernel
theorem dX5_isDone_96 : decode cX5_isDone 96 = .ok (.iaload, 1) := by decide +kernel
theorem dX5_isDone_97 : decode cX5_isDone 97 = .ok (.invokevirtual 101, 3) := by decide +kernel
theorem dX5_isDone_100 : decode cX5_isDone 100 = .ok (.ireturn, 1) := by decide +kernel
theorem dX5_isDone_101 : decode cX5_isDone 101 = .ok (.aload_n 0, 1) := by decide +kernel
theorem dX5_isDone_102 : decode cX5_isDone 102 = .ok (.iload_n 2, 1) := by decide +kernel
theorem dX5_isDone_103 : decode cX5_isDone 103 = .ok (.invokevirtual 104, 3) := by decide +kernel
theorem dX5_isDone_106 : decode cX5_isDone 106 = .ok (.ifCond .eq 30, 3) := by decide +kernel
theorem dX5_isDone_109 : decode cX5_isDone 109 = .ok (.iload_n 3, 1) := by decide +kernel
theorem dX5_isDone_110 : decode cX5_isDone 110 = .ok (.aload_n 0, 1) := by decide +kernel
theorem dX5_isDone_111 : decode cX5_isDone 111 = .ok (.getfield 9, 3) := by decide +kernel
theorem dX5_isDone_114 : decode cX5_isDone 114 = .ok (.iconst 2, 1) := by decide +kernel
theorem dX5_isDone_115 : decode cX5_isDone 115 = .ok (.iaload, 1) := by decide +kernel
theorem dX5_isDone_116 : decode cX5_isDone 116 = .ok (.if_icmp .gt 20, 3) := by decide +kernel
theorem dX5_isDone_119 : decode cX5_isDone 119 = .ok (.aload_n 0, 1) := by decide +kernel
theorem dX5_isDone_120 : decode cX5_isDone 120 = .ok (.getfield 9, 3) := by decide +kernel
theorem dX5_isDone_123 : decode cX5_isDone 123 = .ok (.iload_n 2, 1) := by decide +kernel
theorem dX5_isDone_124 : decode cX5_isDone 124 = .ok (.iconst 2, 1) := by decide +kernel
theorem dX5_isDone_125 : decode cX5_isDone 125 = .ok (.invokestatic 45, 3) := by decide +kernel
theorem dX5_isDone_128 : decode cX5_isDone 128 = .ok (.iaload, 1) := by decide +kernel
theorem dX5_isDone_129 : decode cX5_isDone 129 = .ok (.iload_n 3, 1) := by decide +kernel
theorem dX5_isDone_130 : decode cX5_isDone 130 = .ok (.iadd, 1) := by decide +kernel
theorem dX5_isDone_131 : decode cX5_isDone 131 = .ok (.bipush 99, 2) := by decide +kernel
theorem dX5_isDone_133 : decode cX5_isDone 133 = .ok (.if_icmp .le 5, 3) := by decide +kernel
theorem dX5_isDone_136 : decode cX5_isDone 136 = .ok (.iconst 0, 1) := by decide +kernel
theorem dX5_isDone_137 : decode cX5_isDone 137 = .ok (.ireturn, 1) := by decide +kernel
theorem dX5_isDone_138 : decode cX5_isDone 138 = .ok (.aload_n 0, 1) := by decide +kernel
theorem dX5_isDone_139 : decode cX5_isDone 139 = .ok (.getfield 9, 3) := by decide +kernel
theorem dX5_isDone_142 : decode cX5_isDone 142 = .ok (.iload_n 2, 1) := by decide +kernel
theorem dX5_isDone_143 : decode cX5_isDone 143 = .ok (.iload_n 3, 1) := by decide +kernel
theorem dX5_isDone_144 : decode cX5_isDone 144 = .ok (.invokestatic 108, 3) := by decide +kernel
theorem dX5_isDone_147 : decode cX5_isDone 147 = .ok (.iconst 1, 1) := by decide +kernel
theorem dX5_isDone_148 : decode cX5_isDone 148 = .ok (.ireturn, 1) := by decide +kernel
theorem dX5_isDone_149 : decode cX5_isDone 149 = .ok (.aload_n 0, 1) := by decide +kernel
theorem dX5_isDone_150 : decode cX5_isDone 150 = .ok (.iload_n 2, 1) := by decide +kernel
theorem dX5_isDone_151 : decode cX5_isDone 151 = .ok (.invokevirtual 104, 3) := by decide +kernel
theorem dX5_isDone_154 : decode cX5_isDone 154 = .ok (.ifCond .eq 9, 3) := by decide +kernel
theorem dX5_isDone_157 : decode cX5_isDone 157 = .ok (.iload_n 3, 1) := by decide +kernel
theorem dX5_isDone_158 : decode cX5_isDone 158 = .ok (.bipush 60, 2) := by decide +kernel
theorem dX5_isDone_160 : decode cX5_isDone 160 = .ok (.if_icmp .le 5, 3) := by decide +kernel
theorem dX5_isDone_163 : decode cX5_isDone 163 = .ok (.iconst 0, 1) := by decide +kernel
theorem dX5_isDone_164 : decode cX5_isDone 164 = .ok (.ireturn, 1) := by decide +kernel
theorem dX5_isDone_165 : decode cX5_isDone 165 = .ok (.aload_n 0, 1) := by decide +kernel
theorem dX5_isDone_166 : decode cX5_isDone 166 = .ok (.getfield 9, 3) := by decide +kernel
theorem dX5_isDone_169 : decode cX5_isDone 169 = .ok (.iload_n 2, 1) := by decide +kernel
theorem dX5_isDone_170 : decode cX5_isDone 170 = .ok (.iconst 3, 1) := by decide +kernel
theorem dX5_isDone_171 : decode cX5_isDone 171 = .ok (.invokestatic 45, 3) := by decide +kernel
theorem dX5_isDone_174 : decode cX5_isDone 174 = .ok (.iload_n 3, 1) := by decide +kernel
theorem dX5_isDone_175 : decode cX5_isDone 175 = .ok (.iastore, 1) := by decide +kernel
theorem dX5_isDone_176 : decode cX5_isDone 176 = .ok (.iconst 1, 1) := by decide +kernel
theorem dX5_isDone_177 : decode cX5_isDone 177 = .ok (.ireturn, 1) := by decide +kernel
theorem dX5_isDone_178 : decode cX5_isDone 178 = .ok (.aload_n 0, 1) := by decide +kernel
theorem dX5_isDone_179 : decode cX5_isDone 179 = .ok (.iload_n 2, 1) := by decide +kernel
theorem dX5_isDone_180 : decode cX5_isDone 180 = .ok (.invokevirtual 104, 3) := by decide +kernel
theorem dX5_isDone_183 : decode cX5_isDone 183 = .ok (.ifCond .ne 5, 3) := by decide +kernel
theorem dX5_isDone_186 : decode cX5_isDone 186 = .ok (.iconst 0, 1) := by decide +kernel
theorem dX5_isDone_187 : decode cX5_isDone 187 = .ok (.ireturn, 1) := by decide +kernel
theorem dX5_isDone_188 : decode cX5_isDone 188 = .ok (.aload_n 0, 1) := by decide +kernel
theorem dX5_isDone_189 : decode cX5_isDone 189 = .ok (.getfield 9, 3) := by decide +kernel
theorem dX5_isDone_192 : decode cX5_isDone 192 = .ok (.iload_n 2, 1) := by decide +kernel
theorem dX5_isDone_193 : decode cX5_isDone 193 = .ok (.invokestatic 112, 3) := by decide +kernel
theorem dX5_isDone_196 : decode cX5_isDone 196 = .ok (.iconst 1, 1) := by decide +kernel
theorem dX5_isDone_197 : decode cX5_isDone 197 = .ok (.ireturn, 1) := by decide +kernel
theorem dX5_isDone_198 : decode cX5_isDone 198 = .ok (.aload_n 0, 1) := by decide +kernel
theorem dX5_isDone_199 : decode cX5_isDone 199 = .ok (.getfield 9, 3) := by decide +kernel
theorem dX5_isDone_202 : decode cX5_isDone 202 = .ok (.iconst 2, 1) := by decide +kernel
theorem dX5_isDone_203 : decode cX5_isDone 203 = .ok (.iaload, 1) := by decide +kernel
theorem dX5_isDone_204 : decode cX5_isDone 204 = .ok (.iload_n 2, 1) := by decide +kernel
theorem dX5_isDone_205 : decode cX5_isDone 205 = .ok (.iadd, 1) := by decide +kernel
theorem dX5_isDone_206 : decode cX5_isDone 206 = .ok (.sipush 999, 3) := by decide +kernel
theorem dX5_isDone_209 : decode cX5_isDone 209 = .ok (.if_icmp .le 5, 3) := by decide +kernel
theorem dX5_isDone_212 : decode cX5_isDone 212 = .ok (.iconst 0, 1) := by decide +kernel
theorem dX5_isDone_213 : decode cX5_isDone 213 = .ok (.ireturn, 1) := by decide +kernel
theorem dX5_isDone_214 : decode cX5_isDone 214 = .ok (.aload_n 0, 1) := by decide +kernel
theorem dX5_isDone_215 : decode cX5_isDone 215 = .ok (.getfield 9, 3) := by decide +kernel
theorem dX5_isDone_218 : decode cX5_isDone 218 = .ok (.iconst 2, 1) := by decide +kernel
theorem dX5_isDone_219 : decode cX5_isDone 219 = .ok (.dup2, 1) := by decide +kernel
theorem dX5_isDone_220 : decode cX5_isDone 220 = .ok (.iaload, 1) := by decide +kernel
theorem dX5_isDone_221 : decode cX5_isDone 221 = .ok (.iload_n 2, 1) := by decide +kernel
theorem dX5_isDone_222 : decode cX5_isDone 222 = .ok (.iadd, 1) := by decide +kernel
theorem dX5_isDone_223 : decode cX5_isDone 223 = .ok (.iastore, 1) := by decide +kernel
theorem dX5_isDone_224 : decode cX5_isDone 224 = .ok (.iconst 1, 1) := by decide +kernel
theorem dX5_isDone_225 : decode cX5_isDone 225 = .ok (.ireturn, 1) := by decide +kernel
theorem dX5_isDone_226 : decode cX5_isDone 226 = .ok (.iload_n 2, 1) := by decide +kernel
theorem dX5_isDone_227 : decode cX5_isDone 227 = .ok (.iconst 1, 1) := by decide +kernel
theorem dX5_isDone_228 : decode cX5_isDone 228 = .ok (.bipush 60, 2) := by decide +kernel
theorem dX5_isDone_230 : decode cX5_isDone 230 = .ok (.invokestatic 41, 3) := by decide +kernel
theorem dX5_isDone_233 : decode cX5_isDone 233 = .ok (.ifCond .eq 17, 3) := by decide +kernel
theorem dX5_isDone_236 : decode cX5_isDone 236 = .ok (.aload_n 0, 1) := by decide +kernel
theorem dX5_isDone_237 : decode cX5_isDone 237 = .ok (.getfield 9, 3) := by decide +kernel
theorem dX5_isDone_240 : decode cX5_isDone 240 = .ok (.iconst 1, 1) := by decide +kernel
theorem dX5_isDone_241 : decode cX5_isDone 241 = .ok (.iaload, 1) := by decide +kernel
theorem dX5_isDone_242 : decode cX5_isDone 242 = .ok (.iload_n 2, 1) := by decide +kernel
theorem dX5_isDone_243 : decode cX5_isDone 243 = .ok (.iadd, 1) := by decide +kernel
theorem dX5_isDone_244 : decode cX5_isDone 244 = .ok (.sipush 999, 3) := by decide +kernel
theorem dX5_isDone_247 : decode cX5_isDone 247 = .ok (.if_icmp .le 5, 3) := by decide +kernel
theorem dX5_isDone_250 : decode cX5_isDone 250 = .ok (.iconst 0, 1) := by decide +kernel
theorem dX5_isDone_251 : decode cX5_isDone 251 = .ok (.ireturn, 1) := by decide +kernel
theorem dX5_isDone_252 : decode cX5_isDone 252 = .ok (.aload_n 0, 1) := by decide +kernel
theorem dX5_isDone_253 : decode cX5_isDone 253 = .ok (.getfield 9, 3) := by decide +kernel
theorem dX5_isDone_256 : decode cX5_isDone 256 = .ok (.iload_n 2, 1) := by decide +kernel
theorem dX5_isDone_257 : decode cX5_isDone 257 = .ok (.invokestatic 73, 3) := by decide +kernel
theorem dX5_isDone_260 : decode cX5_isDone 260 = .ok (.iconst 1, 1) := by decide +kernel
theorem dX5_isDone_261 : decode cX5_isDone 261 = .ok (.ireturn, 1) := by decide +kernel
set_option maxRecDepth 20000 in
theorem ggX5_counter_X5_readsStatement : GoodIn wsX5_counter wsX5_readsStatement := goodIn_r _ [9, 1, 10, 11, 12, 8, 13, 2, 14, 15, 16, 17, 18, 19, 20, 21, 22, 23, 24, 25, 26, 27, 28, 29, 78, 79, 80, 81, 82, 83, 84, 85, 86, 87, 88, 89, 90] (by decide +kernel) (by decide +kernel)
set_option maxRecDepth 20000 in
theorem gX5_counter_X5_readsStatement : GoodIn wsX5_counter (wsV RX5 115 RX5 yX5_readsStatement wsX5_readsStatement) := goodIn_app (goodIn_of _ (by decide +kernel)) ggX5_counter_X5_readsStatement
set_option maxRecDepth 20000 in
theorem ggX5_counter_X5_copies : GoodIn wsX5_counter wsX5_copies := goodIn_r _ [32] (by decide +kernel) (by decide +kernel)
set_option maxRecDepth 20000 in
theorem gX5_counter_X5_copies : GoodIn wsX5_counter (va_wsS RX5 118 yX5_copies wsX5_copies) := goodIn_app (goodIn_of _ (by decide +kernel)) ggX5_counter_X5_copies
set_option maxRecDepth 20000 in
theorem ggX5_counter_X5_here : GoodIn wsX5_counter wsX5_here := goodIn_r _ [13, 1, 2, 14, 78, 79, 80, 81, 82, 83, 84, 85, 86, 87, 88, 89, 90] (by decide +kernel) (by decide +kernel)
set_option maxRecDepth 20000 in
theorem gX5_counter_X5_here : GoodIn wsX5_counter (wsV RX5 86 RX5 yX5_here wsX5_here) := goodIn_app (goodIn_of _ (by decide +kernel)) ggX5_counter_X5_here
set_option maxRecDepth 20000 in
theorem ggX5_counter_X5_isDone : GoodIn wsX5_counter wsX5_isDone := goodIn_r _ [36, 19, 3, 37, 38, 39, 8, 40, 41, 42, 43, 44, 45, 46, 47, 27, 28, 29, 48, 49, 50, 51, 52, 53, 54, 55, 56, 57, 58, 59, 60, 61, 62, 63, 64, 65, 66, 67, 68, 69, 70, 71, 72, 73, 74, 75, 76, 77, 78, 79, 80, 81, 82, 83, 84, 85, 86, 87, 88, 89, 90] (by decide +kernel) (by decide +kernel)
set_option maxRecDepth 20000 in
theorem gX5_counter_X5_isDone : GoodIn wsX5_counter (wsV RX5 122 RX5 yX5_isDone wsX5_isDone) := goodIn_app (goodIn_of _ (by decide +kernel)) ggX5_counter_X5_isDone
theorem dX5_counter_0 : decode cX5_counter 0 = .ok (.aload_n 0, 1) := by decide +kernel
theorem dX5_counter_1 : decode cX5_counter 1 = .ok (.iconst 0, 1) := by decide +kernel
theorem dX5_counter_2 : decode cX5_counter 2 = .ok (.putfield 83, 3) := by decide +kernel
theorem dX5_counter_5 : decode cX5_counter 5 = .ok (.iconst 0, 1) := by decide +kernel
theorem dX5_counter_6 : decode cX5_counter 6 = .ok (.istore_n 1, 1) := by decide +kernel
theorem dX5_counter_7 : decode cX5_counter 7 = .ok (.bipush (-9), 2) := by decide +kernel
theorem dX5_counter_9 : decode cX5_counter 9 = .ok (.istore_n 2, 1) := by decide +kernel
theorem dX5_counter_10 : decode cX5_counter 10 = .ok (.aload_n 0, 1) := by decide +kernel
theorem dX5_counter_11 : decode cX5_counter 11 = .ok (.invokevirtual 115, 3) := by decide +kernel
theorem dX5_counter_14 : decode cX5_counter 14 = .ok (.ifCond .ne 12, 3) := by decide +kernel
theorem dX5_counter_17 : decode cX5_counter 17 = .ok (.sipush (-1000), 3) := by decide +kernel
theorem dX5_counter_20 : decode cX5_counter 20 = .ok (.aload_n 0, 1) := by decide +kernel
theorem dX5_counter_21 : decode cX5_counter 21 = .ok (.getfield 83, 3) := by decide +kernel
theorem dX5_counter_24 : decode cX5_counter 24 = .ok (.isub, 1) := by decide +kernel
theorem dX5_counter_25 : decode cX5_counter 25 = .ok (.istore_n 2, 1) := by decide +kernel
theorem dX5_counter_26 : decode cX5_counter 26 = .ok (.iinc 1 1, 3) := by decide +kernel
theorem dX5_counter_29 : decode cX5_counter 29 = .ok (.iload_n 2, 1) := by decide +kernel
theorem dX5_counter_30 : decode cX5_counter 30 = .ok (.bipush (-9), 2) := by decide +kernel
theorem dX5_counter_32 : decode cX5_counter 32 = .ok (.if_icmp .ne 14, 3) := by decide +kernel
theorem dX5_counter_35 : decode cX5_counter 35 = .ok (.aload_n 0, 1) := by decide +kernel
theorem dX5_counter_36 : decode cX5_counter 36 = .ok (.getfield 83, 3) := by decide +kernel
theorem dX5_counter_39 : decode cX5_counter 39 = .ok (.aload_n 0, 1) := by decide +kernel
theorem dX5_counter_40 : decode cX5_counter 40 = .ok (.getfield 79, 3) := by decide +kernel
theorem dX5_counter_43 : decode cX5_counter 43 = .ok (.if_icmp .lt (-33), 3) := by decide +kernel
theorem dX5_counter_46 : decode cX5_counter 46 = .ok (.aload_n 0, 1) := by decide +kernel
theorem dX5_counter_47 : decode cX5_counter 47 = .ok (.getfield 9, 3) := by decide +kernel
theorem dX5_counter_50 : decode cX5_counter 50 = .ok (.aload_n 0, 1) := by decide +kernel
theorem dX5_counter_51 : decode cX5_counter 51 = .ok (.getfield 19, 3) := by decide +kernel
theorem dX5_counter_54 : decode cX5_counter 54 = .ok (.invokestatic 118, 3) := by decide +kernel
theorem dX5_counter_57 : decode cX5_counter 57 = .ok (.aload_n 0, 1) := by decide +kernel
theorem dX5_counter_58 : decode cX5_counter 58 = .ok (.iconst 0, 1) := by decide +kernel
theorem dX5_counter_59 : decode cX5_counter 59 = .ok (.putfield 83, 3) := by decide +kernel
theorem dX5_counter_62 : decode cX5_counter 62 = .ok (.iload_n 2, 1) := by decide +kernel
theorem dX5_counter_63 : decode cX5_counter 63 = .ok (.bipush (-9), 2) := by decide +kernel
theorem dX5_counter_65 : decode cX5_counter 65 = .ok (.if_icmp .ne 63, 3) := by decide +kernel
theorem dX5_counter_68 : decode cX5_counter 68 = .ok (.aload_n 0, 1) := by decide +kernel
theorem dX5_counter_69 : decode cX5_counter 69 = .ok (.getfield 83, 3) := by decide +kernel
theorem dX5_counter_72 : decode cX5_counter 72 = .ok (.aload_n 0, 1) := by decide +kernel
theorem dX5_counter_73 : decode cX5_counter 73 = .ok (.getfield 79, 3) := by decide +kernel
theorem dX5_counter_76 : decode cX5_counter 76 = .ok (.if_icmp .ge 52, 3) := by decide +kernel
theorem dX5_counter_79 : decode cX5_counter 79 = .ok (.aload_n 0, 1) := by decide +kernel
theorem dX5_counter_80 : decode cX5_counter 80 = .ok (.getfield 83, 3) := by decide +kernel
theorem dX5_counter_83 : decode cX5_counter 83 = .ok (.istore_n 3, 1) := by decide +kernel
theorem dX5_counter_84 : decode cX5_counter 84 = .ok (.aload_n 0, 1) := by decide +kernel
theorem dX5_counter_85 : decode cX5_counter 85 = .ok (.invokevirtual 86, 3) := by decide +kernel
theorem dX5_counter_88 : decode cX5_counter 88 = .ok (.istore 4, 2) := by decide +kernel
theorem dX5_counter_90 : decode cX5_counter 90 = .ok (.aload_n 0, 1) := by decide +kernel
theorem dX5_counter_91 : decode cX5_counter 91 = .ok (.invokevirtual 115, 3) := by decide +kernel
theorem dX5_counter_94 : decode cX5_counter 94 = .ok (.istore 5, 2) := by decide +kernel
theorem dX5_counter_96 : decode cX5_counter 96 = .ok (.aload_n 0, 1) := by decide +kernel
theorem dX5_counter_97 : decode cX5_counter 97 = .ok (.iload 4, 2) := by decide +kernel
theorem dX5_counter_99 : decode cX5_counter 99 = .ok (.invokevirtual 122, 3) := by decide +kernel
theorem dX5_counter_102 : decode cX5_counter 102 = .ok (.ifCond .eq 6, 3) := by decide +kernel
theorem dX5_counter_105 : decode cX5_counter 105 = .ok (.goto (-43), 3) := by decide +kernel
theorem dX5_counter_108 : decode cX5_counter 108 = .ok (.sipush (-2000), 3) := by decide +kernel
theorem dX5_counter_111 : decode cX5_counter 111 = .ok (.iload_n 3, 1) := by decide +kernel
theorem dX5_counter_112 : decode cX5_counter 112 = .ok (.isub, 1) := by decide +kernel
theorem dX5_counter_113 : decode cX5_counter 113 = .ok (.istore_n 2, 1) := by decide +kernel
theorem dX5_counter_114 : decode cX5_counter 114 = .ok (.aload_n 0, 1) := by decide +kernel
theorem dX5_counter_115 : decode cX5_counter 115 = .ok (.getfield 19, 3) := by decide +kernel
theorem dX5_counter_118 : decode cX5_counter 118 = .ok (.aload_n 0, 1) := by decide +kernel
theorem dX5_counter_119 : decode cX5_counter 119 = .ok (.getfield 9, 3) := by decide +kernel
theorem dX5_counter_122 : decode cX5_counter 122 = .ok (.invokestatic 118, 3) := by decide +kernel
theorem dX5_counter_125 : decode cX5_counter 125 = .ok (.goto (-63), 3) := by decide +kernel
theorem dX5_counter_128 : decode cX5_counter 128 = .ok (.aload_n 0, 1) := by decide +kernel
theorem dX5_counter_129 : decode cX5_counter 129 = .ok (.iconst 0, 1) := by decide +kernel
theorem dX5_counter_130 : decode cX5_counter 130 = .ok (.putfield 79, 3) := by decide +kernel
theorem dX5_counter_133 : decode cX5_counter 133 = .ok (.iload_n 2, 1) := by decide +kernel
theorem dX5_counter_134 : decode cX5_counter 134 = .ok (.bipush (-9), 2) := by decide +kernel
theorem dX5_counter_136 : decode cX5_counter 136 = .ok (.if_icmp .ne 7, 3) := by decide +kernel
theorem dX5_counter_139 : decode cX5_counter 139 = .ok (.iload_n 1, 1) := by decide +kernel
theorem dX5_counter_140 : decode cX5_counter 140 = .ok (.goto 4, 3) := by decide +kernel
theorem dX5_counter_143 : decode cX5_counter 143 = .ok (.iload_n 2, 1) := by decide +kernel
theorem dX5_counter_144 : decode cX5_counter 144 = .ok (.ireturn, 1) := by decide +kernel
set_option maxRecDepth 20000 in
theorem ggX5_person_X5_isOne : GoodIn wsX5_person wsX5_isOne := goodIn_r _ [6, 1, 7, 8, 5, 9, 24, 25, 26, 27, 28, 29, 30, 31, 32, 33, 34, 35, 36] (by decide +kernel) (by decide +kernel)
set_option maxRecDepth 20000 in
theorem gX5_person_X5_isOne : GoodIn wsX5_person (wsV RX5 104 RX5 yX5_isOne wsX5_isOne) := goodIn_app (goodIn_of _ (by decide +kernel)) ggX5_person_X5_isOne
set_option maxRecDepth 20000 in
theorem ggX5_person_X5_no : GoodIn wsX5_person wsX5_no := goodIn_r _ [13, 14, 24, 25, 26, 27, 28, 29, 30, 31, 32, 33, 34, 35, 36] (by decide +kernel) (by decide +kernel)
set_option maxRecDepth 20000 in
theorem gX5_person_X5_no : GoodIn wsX5_person (wsV RX5 35 RX5 yX5_no wsX5_no) := goodIn_app (goodIn_of _ (by decide +kernel)) ggX5_person_X5_no
set_option maxRecDepth 20000 in
theorem ggX5_person_X5_isIn : GoodIn wsX5_person wsX5_isIn := goodIn_r _ [9] (by decide +kernel) (by decide +kernel)
set_option maxRecDepth 20000 in
theorem gX5_person_X5_isIn : GoodIn wsX5_person (va_wsS RX5 41 yX5_isIn wsX5_isIn) := goodIn_app (goodIn_of _ (by decide +kernel)) ggX5_person_X5_isIn
set_option maxRecDepth 20000 in
theorem ggX5_person_X5_of : GoodIn wsX5_person wsX5_of := goodIn_r _ [17] (by decide +kernel) (by decide +kernel)
set_option maxRecDepth 20000 in
theorem gX5_person_X5_of : GoodIn wsX5_person (va_wsS RX5 45 yX5_of wsX5_of) := goodIn_app (goodIn_of _ (by decide +kernel)) ggX5_person_X5_of
set_option maxRecDepth 20000 in
theorem ggX5_person_X5_needs : GoodIn wsX5_person wsX5_needs := goodIn_r _ [20, 15, 16, 5, 17] (by decide +kernel) (by decide +kernel)
set_option maxRecDepth 20000 in
theorem gX5_person_X5_needs : GoodIn wsX5_person (va_wsS RX5 49 yX5_needs wsX5_needs) := goodIn_app (goodIn_of _ (by decide +kernel)) ggX5_person_X5_needs
set_option maxRecDepth 20000 in
theorem ggX5_person_X5_lacksIn : GoodIn wsX5_person wsX5_lacksIn := goodIn_r _ [23, 18, 19, 5, 20, 15, 16, 17] (by decide +kernel) (by decide +kernel)
set_option maxRecDepth 20000 in
theorem gX5_person_X5_lacksIn : GoodIn wsX5_person (va_wsS RX5 125 yX5_lacksIn wsX5_lacksIn) := goodIn_app (goodIn_of _ (by decide +kernel)) ggX5_person_X5_lacksIn
theorem dX5_person_0 : decode cX5_person 0 = .ok (.aload_n 0, 1) := by decide +kernel
theorem dX5_person_1 : decode cX5_person 1 = .ok (.iload_n 1, 1) := by decide +kernel
theorem dX5_person_2 : decode cX5_person 2 = .ok (.invokevirtual 104, 3) := by decide +kernel
theorem dX5_person_5 : decode cX5_person 5 = .ok (.ifCond .ne 9, 3) := by decide +kernel
theorem dX5_person_8 : decode cX5_person 8 = .ok (.aload_n 0, 1) := by decide +kernel
theorem dX5_person_9 : decode cX5_person 9 = .ok (.iconst (-1), 1) := by decide +kernel
theorem dX5_person_10 : decode cX5_person 10 = .ok (.invokevirtual 35, 3) := by decide +kernel
theorem dX5_person_13 : decode cX5_person 13 = .ok (.ireturn, 1) := by decide +kernel
theorem dX5_person_14 : decode cX5_person 14 = .ok (.iload_n 2, 1) := by decide +kernel
theorem dX5_person_15 : decode cX5_person 15 = .ok (.iconst 0, 1) := by decide +kernel
theorem dX5_person_16 : decode cX5_person 16 = .ok (.iconst 5, 1) := by decide +kernel
theorem dX5_person_17 : decode cX5_person 17 = .ok (.invokestatic 41, 3) := by decide +kernel
theorem dX5_person_20 : decode cX5_person 20 = .ok (.ifCond .eq 14, 3) := by decide +kernel
theorem dX5_person_23 : decode cX5_person 23 = .ok (.aload_n 0, 1) := by decide +kernel
theorem dX5_person_24 : decode cX5_person 24 = .ok (.getfield 9, 3) := by decide +kernel
theorem dX5_person_27 : decode cX5_person 27 = .ok (.iload_n 1, 1) := by decide +kernel
theorem dX5_person_28 : decode cX5_person 28 = .ok (.iload_n 2, 1) := by decide +kernel
theorem dX5_person_29 : decode cX5_person 29 = .ok (.invokestatic 45, 3) := by decide +kernel
theorem dX5_person_32 : decode cX5_person 32 = .ok (.iaload, 1) := by decide +kernel
theorem dX5_person_33 : decode cX5_person 33 = .ok (.ireturn, 1) := by decide +kernel
theorem dX5_person_34 : decode cX5_person 34 = .ok (.iload_n 2, 1) := by decide +kernel
theorem dX5_person_35 : decode cX5_person 35 = .ok (.bipush 6, 2) := by decide +kernel
theorem dX5_person_37 : decode cX5_person 37 = .ok (.if_icmp .ne 14, 3) := by decide +kernel
theorem dX5_person_40 : decode cX5_person 40 = .ok (.aload_n 0, 1) := by decide +kernel
theorem dX5_person_41 : decode cX5_person 41 = .ok (.getfield 9, 3) := by decide +kernel
theorem dX5_person_44 : decode cX5_person 44 = .ok (.iload_n 1, 1) := by decide +kernel
theorem dX5_person_45 : decode cX5_person 45 = .ok (.invokestatic 49, 3) := by decide +kernel
theorem dX5_person_48 : decode cX5_person 48 = .ok (.goto 26, 3) := by decide +kernel
theorem dX5_person_51 : decode cX5_person 51 = .ok (.iload_n 2, 1) := by decide +kernel
theorem dX5_person_52 : decode cX5_person 52 = .ok (.bipush 7, 2) := by decide +kernel
theorem dX5_person_54 : decode cX5_person 54 = .ok (.if_icmp .ne 14, 3) := by decide +kernel
theorem dX5_person_57 : decode cX5_person 57 = .ok (.aload_n 0, 1) := by decide +kernel
theorem dX5_person_58 : decode cX5_person 58 = .ok (.getfield 9, 3) := by decide +kernel
theorem dX5_person_61 : decode cX5_person 61 = .ok (.iload_n 1, 1) := by decide +kernel
theorem dX5_person_62 : decode cX5_person 62 = .ok (.invokestatic 125, 3) := by decide +kernel
theorem dX5_person_65 : decode cX5_person 65 = .ok (.goto 9, 3) := by decide +kernel
theorem dX5_person_68 : decode cX5_person 68 = .ok (.aload_n 0, 1) := by decide +kernel
theorem dX5_person_69 : decode cX5_person 69 = .ok (.bipush (-2), 2) := by decide +kernel
theorem dX5_person_71 : decode cX5_person 71 = .ok (.invokevirtual 35, 3) := by decide +kernel
theorem dX5_person_74 : decode cX5_person 74 = .ok (.ireturn, 1) := by decide +kernel
theorem dX5_wrongBy_0 : decode cX5_wrongBy 0 = .ok (.iload_n 0, 1) := by decide +kernel
theorem dX5_wrongBy_1 : decode cX5_wrongBy 1 = .ok (.iload_n 1, 1) := by decide +kernel
theorem dX5_wrongBy_2 : decode cX5_wrongBy 2 = .ok (.if_icmp .ge 8, 3) := by decide +kernel
theorem dX5_wrongBy_5 : decode cX5_wrongBy 5 = .ok (.bipush (-4), 2) := by decide +kernel
theorem dX5_wrongBy_7 : decode cX5_wrongBy 7 = .ok (.goto 14, 3) := by decide +kernel
theorem dX5_wrongBy_10 : decode cX5_wrongBy 10 = .ok (.iload_n 0, 1) := by decide +kernel
theorem dX5_wrongBy_11 : decode cX5_wrongBy 11 = .ok (.iload_n 2, 1) := by decide +kernel
theorem dX5_wrongBy_12 : decode cX5_wrongBy 12 = .ok (.if_icmp .le 8, 3) := by decide +kernel
theorem dX5_wrongBy_15 : decode cX5_wrongBy 15 = .ok (.bipush (-6), 2) := by decide +kernel
theorem dX5_wrongBy_17 : decode cX5_wrongBy 17 = .ok (.goto 4, 3) := by decide +kernel
theorem dX5_wrongBy_20 : decode cX5_wrongBy 20 = .ok (.iconst 0, 1) := by decide +kernel
theorem dX5_wrongBy_21 : decode cX5_wrongBy 21 = .ok (.ireturn, 1) := by decide +kernel
set_option maxRecDepth 20000 in
theorem ggX5_issues_X5_isOne : GoodIn wsX5_issues wsX5_isOne := goodIn_r _ [6, 1, 7, 8, 5, 9, 24, 25, 26, 27, 28, 29, 30, 31, 32, 33, 34, 35, 36] (by decide +kernel) (by decide +kernel)
set_option maxRecDepth 20000 in
theorem gX5_issues_X5_isOne : GoodIn wsX5_issues (wsV RX5 104 RX5 yX5_isOne wsX5_isOne) := goodIn_app (goodIn_of _ (by decide +kernel)) ggX5_issues_X5_isOne
set_option maxRecDepth 20000 in
theorem ggX5_issues_X5_wrongBy : GoodIn wsX5_issues wsX5_wrongBy := goodIn_r _ [12] (by decide +kernel) (by decide +kernel)
set_option maxRecDepth 20000 in
theorem gX5_issues_X5_wrongBy : GoodIn wsX5_issues (va_wsS RX5 128 yX5_wrongBy wsX5_wrongBy) := goodIn_app (goodIn_of _ (by decide +kernel)) ggX5_issues_X5_wrongBy
set_option maxRecDepth 20000 in
theorem ggX5_issues_X5_of : GoodIn wsX5_issues wsX5_of := goodIn_r _ [15] (by decide +kernel) (by decide +kernel)
set_option maxRecDepth 20000 in
theorem gX5_issues_X5_of : GoodIn wsX5_issues (va_wsS RX5 45 yX5_of wsX5_of) := goodIn_app (goodIn_of _ (by decide +kernel)) ggX5_issues_X5_of
set_option maxRecDepth 20000 in
theorem ggX5_issues_X5_no : GoodIn wsX5_issues wsX5_no := goodIn_r _ [19, 20, 24, 25, 26, 27, 28, 29, 30, 31, 32, 33, 34, 35, 36] (by decide +kernel) (by decide +kernel)
set_option maxRecDepth 20000 in
theorem gX5_issues_X5_no : GoodIn wsX5_issues (wsV RX5 35 RX5 yX5_no wsX5_no) := goodIn_app (goodIn_of _ (by decide +kernel)) ggX5_issues_X5_no
set_option maxRecDepth 20000 in
theorem ggX5_issues_X5_issuesIn : GoodIn wsX5_issues wsX5_issuesIn := goodIn_r _ [23, 13, 14, 5, 15] (by decide +kernel) (by decide +kernel)
set_option maxRecDepth 20000 in
theorem gX5_issues_X5_issuesIn : GoodIn wsX5_issues (va_wsS RX5 108 yX5_issuesIn wsX5_issuesIn) := goodIn_app (goodIn_of _ (by decide +kernel)) ggX5_issues_X5_issuesIn
theorem dX5_issues_0 : decode cX5_issues 0 = .ok (.aload_n 0, 1) := by decide +kernel
theorem dX5_issues_1 : decode cX5_issues 1 = .ok (.iload_n 1, 1) := by decide +kernel
theorem dX5_issues_2 : decode cX5_issues 2 = .ok (.invokevirtual 104, 3) := by decide +kernel
theorem dX5_issues_5 : decode cX5_issues 5 = .ok (.ifCond .eq 13, 3) := by decide +kernel
theorem dX5_issues_8 : decode cX5_issues 8 = .ok (.iload_n 2, 1) := by decide +kernel
theorem dX5_issues_9 : decode cX5_issues 9 = .ok (.iconst 0, 1) := by decide +kernel
theorem dX5_issues_10 : decode cX5_issues 10 = .ok (.bipush 99, 2) := by decide +kernel
theorem dX5_issues_12 : decode cX5_issues 12 = .ok (.invokestatic 128, 3) := by decide +kernel
theorem dX5_issues_15 : decode cX5_issues 15 = .ok (.goto 4, 3) := by decide +kernel
theorem dX5_issues_18 : decode cX5_issues 18 = .ok (.iconst (-1), 1) := by decide +kernel
theorem dX5_issues_19 : decode cX5_issues 19 = .ok (.istore_n 3, 1) := by decide +kernel
theorem dX5_issues_20 : decode cX5_issues 20 = .ok (.iload_n 3, 1) := by decide +kernel
theorem dX5_issues_21 : decode cX5_issues 21 = .ok (.ifCond .ne 33, 3) := by decide +kernel
theorem dX5_issues_24 : decode cX5_issues 24 = .ok (.iload_n 2, 1) := by decide +kernel
theorem dX5_issues_25 : decode cX5_issues 25 = .ok (.aload_n 0, 1) := by decide +kernel
theorem dX5_issues_26 : decode cX5_issues 26 = .ok (.getfield 9, 3) := by decide +kernel
theorem dX5_issues_29 : decode cX5_issues 29 = .ok (.iconst 2, 1) := by decide +kernel
theorem dX5_issues_30 : decode cX5_issues 30 = .ok (.iaload, 1) := by decide +kernel
theorem dX5_issues_31 : decode cX5_issues 31 = .ok (.if_icmp .gt 20, 3) := by decide +kernel
theorem dX5_issues_34 : decode cX5_issues 34 = .ok (.aload_n 0, 1) := by decide +kernel
theorem dX5_issues_35 : decode cX5_issues 35 = .ok (.getfield 9, 3) := by decide +kernel
theorem dX5_issues_38 : decode cX5_issues 38 = .ok (.iload_n 1, 1) := by decide +kernel
theorem dX5_issues_39 : decode cX5_issues 39 = .ok (.iconst 2, 1) := by decide +kernel
theorem dX5_issues_40 : decode cX5_issues 40 = .ok (.invokestatic 45, 3) := by decide +kernel
theorem dX5_issues_43 : decode cX5_issues 43 = .ok (.iaload, 1) := by decide +kernel
theorem dX5_issues_44 : decode cX5_issues 44 = .ok (.iload_n 2, 1) := by decide +kernel
theorem dX5_issues_45 : decode cX5_issues 45 = .ok (.iadd, 1) := by decide +kernel
theorem dX5_issues_46 : decode cX5_issues 46 = .ok (.bipush 99, 2) := by decide +kernel
theorem dX5_issues_48 : decode cX5_issues 48 = .ok (.if_icmp .le 6, 3) := by decide +kernel
theorem dX5_issues_51 : decode cX5_issues 51 = .ok (.bipush (-3), 2) := by decide +kernel
theorem dX5_issues_53 : decode cX5_issues 53 = .ok (.istore_n 3, 1) := by decide +kernel
theorem dX5_issues_54 : decode cX5_issues 54 = .ok (.iload_n 3, 1) := by decide +kernel
theorem dX5_issues_55 : decode cX5_issues 55 = .ok (.ifCond .eq 9, 3) := by decide +kernel
theorem dX5_issues_58 : decode cX5_issues 58 = .ok (.aload_n 0, 1) := by decide +kernel
theorem dX5_issues_59 : decode cX5_issues 59 = .ok (.iload_n 3, 1) := by decide +kernel
theorem dX5_issues_60 : decode cX5_issues 60 = .ok (.invokevirtual 35, 3) := by decide +kernel
theorem dX5_issues_63 : decode cX5_issues 63 = .ok (.ireturn, 1) := by decide +kernel
theorem dX5_issues_64 : decode cX5_issues 64 = .ok (.aload_n 0, 1) := by decide +kernel
theorem dX5_issues_65 : decode cX5_issues 65 = .ok (.getfield 9, 3) := by decide +kernel
theorem dX5_issues_68 : decode cX5_issues 68 = .ok (.iload_n 1, 1) := by decide +kernel
theorem dX5_issues_69 : decode cX5_issues 69 = .ok (.iload_n 2, 1) := by decide +kernel
theorem dX5_issues_70 : decode cX5_issues 70 = .ok (.invokestatic 108, 3) := by decide +kernel
theorem dX5_issues_73 : decode cX5_issues 73 = .ok (.aload_n 0, 1) := by decide +kernel
theorem dX5_issues_74 : decode cX5_issues 74 = .ok (.getfield 9, 3) := by decide +kernel
theorem dX5_issues_77 : decode cX5_issues 77 = .ok (.iconst 2, 1) := by decide +kernel
theorem dX5_issues_78 : decode cX5_issues 78 = .ok (.iaload, 1) := by decide +kernel
theorem dX5_issues_79 : decode cX5_issues 79 = .ok (.ireturn, 1) := by decide +kernel
set_option maxRecDepth 20000 in
theorem ggX5_returns_X5_isOne : GoodIn wsX5_returns wsX5_isOne := goodIn_r _ [6, 1, 7, 8, 5, 9, 27, 28, 29, 30, 31, 32, 33, 34, 35, 36, 37, 38, 39] (by decide +kernel) (by decide +kernel)
set_option maxRecDepth 20000 in
theorem gX5_returns_X5_isOne : GoodIn wsX5_returns (wsV RX5 104 RX5 yX5_isOne wsX5_isOne) := goodIn_app (goodIn_of _ (by decide +kernel)) ggX5_returns_X5_isOne
set_option maxRecDepth 20000 in
theorem ggX5_returns_X5_no : GoodIn wsX5_returns wsX5_no := goodIn_r _ [13, 14, 27, 28, 29, 30, 31, 32, 33, 34, 35, 36, 37, 38, 39] (by decide +kernel) (by decide +kernel)
set_option maxRecDepth 20000 in
theorem gX5_returns_X5_no : GoodIn wsX5_returns (wsV RX5 35 RX5 yX5_no wsX5_no) := goodIn_app (goodIn_of _ (by decide +kernel)) ggX5_returns_X5_no
set_option maxRecDepth 20000 in
theorem ggX5_returns_X5_of : GoodIn wsX5_returns wsX5_of := goodIn_r _ [17] (by decide +kernel) (by decide +kernel)
set_option maxRecDepth 20000 in
theorem gX5_returns_X5_of : GoodIn wsX5_returns (va_wsS RX5 45 yX5_of wsX5_of) := goodIn_app (goodIn_of _ (by decide +kernel)) ggX5_returns_X5_of
set_option maxRecDepth 20000 in
theorem ggX5_returns_X5_handsIn : GoodIn wsX5_returns wsX5_handsIn := goodIn_r _ [20, 15, 16, 5, 17, 21, 22, 23, 24, 25, 26] (by decide +kernel) (by decide +kernel)
set_option maxRecDepth 20000 in
theorem gX5_returns_X5_handsIn : GoodIn wsX5_returns (va_wsS RX5 112 yX5_handsIn wsX5_handsIn) := goodIn_app (goodIn_of _ (by decide +kernel)) ggX5_returns_X5_handsIn
theorem dX5_returns_0 : decode cX5_returns 0 = .ok (.aload_n 0, 1) := by decide +kernel
theorem dX5_returns_1 : decode cX5_returns 1 = .ok (.iload_n 1, 1) := by decide +kernel
theorem dX5_returns_2 : decode cX5_returns 2 = .ok (.invokevirtual 104, 3) := by decide +kernel
theorem dX5_returns_5 : decode cX5_returns 5 = .ok (.ifCond .ne 9, 3) := by decide +kernel
theorem dX5_returns_8 : decode cX5_returns 8 = .ok (.aload_n 0, 1) := by decide +kernel
theorem dX5_returns_9 : decode cX5_returns 9 = .ok (.iconst (-1), 1) := by decide +kernel
theorem dX5_returns_10 : decode cX5_returns 10 = .ok (.invokevirtual 35, 3) := by decide +kernel
theorem dX5_returns_13 : decode cX5_returns 13 = .ok (.ireturn, 1) := by decide +kernel
theorem dX5_returns_14 : decode cX5_returns 14 = .ok (.aload_n 0, 1) := by decide +kernel
theorem dX5_returns_15 : decode cX5_returns 15 = .ok (.getfield 9, 3) := by decide +kernel
theorem dX5_returns_18 : decode cX5_returns 18 = .ok (.iload_n 1, 1) := by decide +kernel
theorem dX5_returns_19 : decode cX5_returns 19 = .ok (.iconst 2, 1) := by decide +kernel
theorem dX5_returns_20 : decode cX5_returns 20 = .ok (.invokestatic 45, 3) := by decide +kernel
theorem dX5_returns_23 : decode cX5_returns 23 = .ok (.iaload, 1) := by decide +kernel
theorem dX5_returns_24 : decode cX5_returns 24 = .ok (.ifCond .ne 10, 3) := by decide +kernel
theorem dX5_returns_27 : decode cX5_returns 27 = .ok (.aload_n 0, 1) := by decide +kernel
theorem dX5_returns_28 : decode cX5_returns 28 = .ok (.bipush (-3), 2) := by decide +kernel
theorem dX5_returns_30 : decode cX5_returns 30 = .ok (.invokevirtual 35, 3) := by decide +kernel
theorem dX5_returns_33 : decode cX5_returns 33 = .ok (.ireturn, 1) := by decide +kernel
theorem dX5_returns_34 : decode cX5_returns 34 = .ok (.aload_n 0, 1) := by decide +kernel
theorem dX5_returns_35 : decode cX5_returns 35 = .ok (.getfield 9, 3) := by decide +kernel
theorem dX5_returns_38 : decode cX5_returns 38 = .ok (.iload_n 1, 1) := by decide +kernel
theorem dX5_returns_39 : decode cX5_returns 39 = .ok (.invokestatic 112, 3) := by decide +kernel
theorem dX5_returns_42 : decode cX5_returns 42 = .ok (.aload_n 0, 1) := by decide +kernel
theorem dX5_returns_43 : decode cX5_returns 43 = .ok (.getfield 9, 3) := by decide +kernel
theorem dX5_returns_46 : decode cX5_returns 46 = .ok (.iconst 2, 1) := by decide +kernel
theorem dX5_returns_47 : decode cX5_returns 47 = .ok (.iaload, 1) := by decide +kernel
theorem dX5_returns_48 : decode cX5_returns 48 = .ok (.ireturn, 1) := by decide +kernel
set_option maxRecDepth 20000 in
theorem ggX5_due_X5_isOne : GoodIn wsX5_due wsX5_isOne := goodIn_r _ [6, 1, 7, 8, 5, 9, 21, 22, 23, 24, 25, 26, 27, 28, 29, 30, 31, 32, 33] (by decide +kernel) (by decide +kernel)
set_option maxRecDepth 20000 in
theorem gX5_due_X5_isOne : GoodIn wsX5_due (wsV RX5 104 RX5 yX5_isOne wsX5_isOne) := goodIn_app (goodIn_of _ (by decide +kernel)) ggX5_due_X5_isOne
set_option maxRecDepth 20000 in
theorem ggX5_due_X5_wrongBy : GoodIn wsX5_due wsX5_wrongBy := goodIn_r _ [12] (by decide +kernel) (by decide +kernel)
set_option maxRecDepth 20000 in
theorem gX5_due_X5_wrongBy : GoodIn wsX5_due (va_wsS RX5 128 yX5_wrongBy wsX5_wrongBy) := goodIn_app (goodIn_of _ (by decide +kernel)) ggX5_due_X5_wrongBy
set_option maxRecDepth 20000 in
theorem ggX5_due_X5_no : GoodIn wsX5_due wsX5_no := goodIn_r _ [16, 17, 21, 22, 23, 24, 25, 26, 27, 28, 29, 30, 31, 32, 33] (by decide +kernel) (by decide +kernel)
set_option maxRecDepth 20000 in
theorem gX5_due_X5_no : GoodIn wsX5_due (wsV RX5 35 RX5 yX5_no wsX5_no) := goodIn_app (goodIn_of _ (by decide +kernel)) ggX5_due_X5_no
set_option maxRecDepth 20000 in
theorem ggX5_due_X5_of : GoodIn wsX5_due wsX5_of := goodIn_r _ [20] (by decide +kernel) (by decide +kernel)
set_option maxRecDepth 20000 in
theorem gX5_due_X5_of : GoodIn wsX5_due (va_wsS RX5 45 yX5_of wsX5_of) := goodIn_app (goodIn_of _ (by decide +kernel)) ggX5_due_X5_of
theorem dX5_due_0 : decode cX5_due 0 = .ok (.aload_n 0, 1) := by decide +kernel
theorem dX5_due_1 : decode cX5_due 1 = .ok (.iload_n 1, 1) := by decide +kernel
theorem dX5_due_2 : decode cX5_due 2 = .ok (.invokevirtual 104, 3) := by decide +kernel
theorem dX5_due_5 : decode cX5_due 5 = .ok (.ifCond .eq 13, 3) := by decide +kernel
theorem dX5_due_8 : decode cX5_due 8 = .ok (.iload_n 2, 1) := by decide +kernel
theorem dX5_due_9 : decode cX5_due 9 = .ok (.iconst 0, 1) := by decide +kernel
theorem dX5_due_10 : decode cX5_due 10 = .ok (.bipush 60, 2) := by decide +kernel
theorem dX5_due_12 : decode cX5_due 12 = .ok (.invokestatic 128, 3) := by decide +kernel
theorem dX5_due_15 : decode cX5_due 15 = .ok (.goto 4, 3) := by decide +kernel
theorem dX5_due_18 : decode cX5_due 18 = .ok (.iconst (-1), 1) := by decide +kernel
theorem dX5_due_19 : decode cX5_due 19 = .ok (.istore_n 3, 1) := by decide +kernel
theorem dX5_due_20 : decode cX5_due 20 = .ok (.iload_n 3, 1) := by decide +kernel
theorem dX5_due_21 : decode cX5_due 21 = .ok (.ifCond .eq 9, 3) := by decide +kernel
theorem dX5_due_24 : decode cX5_due 24 = .ok (.aload_n 0, 1) := by decide +kernel
theorem dX5_due_25 : decode cX5_due 25 = .ok (.iload_n 3, 1) := by decide +kernel
theorem dX5_due_26 : decode cX5_due 26 = .ok (.invokevirtual 35, 3) := by decide +kernel
theorem dX5_due_29 : decode cX5_due 29 = .ok (.ireturn, 1) := by decide +kernel
theorem dX5_due_30 : decode cX5_due 30 = .ok (.aload_n 0, 1) := by decide +kernel
theorem dX5_due_31 : decode cX5_due 31 = .ok (.getfield 9, 3) := by decide +kernel
theorem dX5_due_34 : decode cX5_due 34 = .ok (.iload_n 1, 1) := by decide +kernel
theorem dX5_due_35 : decode cX5_due 35 = .ok (.iconst 3, 1) := by decide +kernel
theorem dX5_due_36 : decode cX5_due 36 = .ok (.invokestatic 45, 3) := by decide +kernel
theorem dX5_due_39 : decode cX5_due 39 = .ok (.iaload, 1) := by decide +kernel
theorem dX5_due_40 : decode cX5_due 40 = .ok (.istore 4, 2) := by decide +kernel
theorem dX5_due_42 : decode cX5_due 42 = .ok (.aload_n 0, 1) := by decide +kernel
theorem dX5_due_43 : decode cX5_due 43 = .ok (.getfield 9, 3) := by decide +kernel
theorem dX5_due_46 : decode cX5_due 46 = .ok (.iload_n 1, 1) := by decide +kernel
theorem dX5_due_47 : decode cX5_due 47 = .ok (.iconst 3, 1) := by decide +kernel
theorem dX5_due_48 : decode cX5_due 48 = .ok (.invokestatic 45, 3) := by decide +kernel
theorem dX5_due_51 : decode cX5_due 51 = .ok (.iload_n 2, 1) := by decide +kernel
theorem dX5_due_52 : decode cX5_due 52 = .ok (.iastore, 1) := by decide +kernel
theorem dX5_due_53 : decode cX5_due 53 = .ok (.iload 4, 2) := by decide +kernel
theorem dX5_due_55 : decode cX5_due 55 = .ok (.ireturn, 1) := by decide +kernel
set_option maxRecDepth 20000 in
theorem ggX5_fills_X5_wrongBy : GoodIn wsX5_fills wsX5_wrongBy := goodIn_r _ [5] (by decide +kernel) (by decide +kernel)
set_option maxRecDepth 20000 in
theorem gX5_fills_X5_wrongBy : GoodIn wsX5_fills (va_wsS RX5 128 yX5_wrongBy wsX5_wrongBy) := goodIn_app (goodIn_of _ (by decide +kernel)) ggX5_fills_X5_wrongBy
set_option maxRecDepth 20000 in
theorem ggX5_fills_X5_no : GoodIn wsX5_fills wsX5_no := goodIn_r _ [9, 10, 11, 12, 13, 14, 15, 16, 17, 18, 19, 20, 21, 22, 23] (by decide +kernel) (by decide +kernel)
set_option maxRecDepth 20000 in
theorem gX5_fills_X5_no : GoodIn wsX5_fills (wsV RX5 35 RX5 yX5_no wsX5_no) := goodIn_app (goodIn_of _ (by decide +kernel)) ggX5_fills_X5_no
theorem dX5_fills_0 : decode cX5_fills 0 = .ok (.iload_n 1, 1) := by decide +kernel
theorem dX5_fills_1 : decode cX5_fills 1 = .ok (.iconst 0, 1) := by decide +kernel
theorem dX5_fills_2 : decode cX5_fills 2 = .ok (.bipush 99, 2) := by decide +kernel
theorem dX5_fills_4 : decode cX5_fills 4 = .ok (.invokestatic 128, 3) := by decide +kernel
theorem dX5_fills_7 : decode cX5_fills 7 = .ok (.istore_n 2, 1) := by decide +kernel
theorem dX5_fills_8 : decode cX5_fills 8 = .ok (.iload_n 2, 1) := by decide +kernel
theorem dX5_fills_9 : decode cX5_fills 9 = .ok (.ifCond .ne 20, 3) := by decide +kernel
theorem dX5_fills_12 : decode cX5_fills 12 = .ok (.aload_n 0, 1) := by decide +kernel
theorem dX5_fills_13 : decode cX5_fills 13 = .ok (.getfield 9, 3) := by decide +kernel
theorem dX5_fills_16 : decode cX5_fills 16 = .ok (.iconst 2, 1) := by decide +kernel
theorem dX5_fills_17 : decode cX5_fills 17 = .ok (.iaload, 1) := by decide +kernel
theorem dX5_fills_18 : decode cX5_fills 18 = .ok (.iload_n 1, 1) := by decide +kernel
theorem dX5_fills_19 : decode cX5_fills 19 = .ok (.iadd, 1) := by decide +kernel
theorem dX5_fills_20 : decode cX5_fills 20 = .ok (.sipush 999, 3) := by decide +kernel
theorem dX5_fills_23 : decode cX5_fills 23 = .ok (.if_icmp .le 6, 3) := by decide +kernel
theorem dX5_fills_26 : decode cX5_fills 26 = .ok (.bipush (-6), 2) := by decide +kernel
theorem dX5_fills_28 : decode cX5_fills 28 = .ok (.istore_n 2, 1) := by decide +kernel
theorem dX5_fills_29 : decode cX5_fills 29 = .ok (.iload_n 2, 1) := by decide +kernel
theorem dX5_fills_30 : decode cX5_fills 30 = .ok (.ifCond .eq 9, 3) := by decide +kernel
theorem dX5_fills_33 : decode cX5_fills 33 = .ok (.aload_n 0, 1) := by decide +kernel
theorem dX5_fills_34 : decode cX5_fills 34 = .ok (.iload_n 2, 1) := by decide +kernel
theorem dX5_fills_35 : decode cX5_fills 35 = .ok (.invokevirtual 35, 3) := by decide +kernel
theorem dX5_fills_38 : decode cX5_fills 38 = .ok (.ireturn, 1) := by decide +kernel
theorem dX5_fills_39 : decode cX5_fills 39 = .ok (.aload_n 0, 1) := by decide +kernel
theorem dX5_fills_40 : decode cX5_fills 40 = .ok (.getfield 9, 3) := by decide +kernel
theorem dX5_fills_43 : decode cX5_fills 43 = .ok (.iconst 2, 1) := by decide +kernel
theorem dX5_fills_44 : decode cX5_fills 44 = .ok (.dup2, 1) := by decide +kernel
theorem dX5_fills_45 : decode cX5_fills 45 = .ok (.iaload, 1) := by decide +kernel
theorem dX5_fills_46 : decode cX5_fills 46 = .ok (.iload_n 1, 1) := by decide +kernel
theorem dX5_fills_47 : decode cX5_fills 47 = .ok (.iadd, 1) := by decide +kernel
theorem dX5_fills_48 : decode cX5_fills 48 = .ok (.iastore, 1) := by decide +kernel
theorem dX5_fills_49 : decode cX5_fills 49 = .ok (.aload_n 0, 1) := by decide +kernel
theorem dX5_fills_50 : decode cX5_fills 50 = .ok (.getfield 9, 3) := by decide +kernel
theorem dX5_fills_53 : decode cX5_fills 53 = .ok (.iconst 2, 1) := by decide +kernel
theorem dX5_fills_54 : decode cX5_fills 54 = .ok (.iaload, 1) := by decide +kernel
theorem dX5_fills_55 : decode cX5_fills 55 = .ok (.ireturn, 1) := by decide +kernel
set_option maxRecDepth 20000 in
theorem ggX5_turn_X5_isOne : GoodIn wsX5_turn wsX5_isOne := goodIn_r _ [6, 1, 7, 8, 5, 9, 21, 22, 23, 24, 25, 26, 27, 28, 29, 30, 31, 32, 33] (by decide +kernel) (by decide +kernel)
set_option maxRecDepth 20000 in
theorem gX5_turn_X5_isOne : GoodIn wsX5_turn (wsV RX5 104 RX5 yX5_isOne wsX5_isOne) := goodIn_app (goodIn_of _ (by decide +kernel)) ggX5_turn_X5_isOne
set_option maxRecDepth 20000 in
theorem ggX5_turn_X5_isIn : GoodIn wsX5_turn wsX5_isIn := goodIn_r _ [9] (by decide +kernel) (by decide +kernel)
set_option maxRecDepth 20000 in
theorem gX5_turn_X5_isIn : GoodIn wsX5_turn (va_wsS RX5 41 yX5_isIn wsX5_isIn) := goodIn_app (goodIn_of _ (by decide +kernel)) ggX5_turn_X5_isIn
set_option maxRecDepth 20000 in
theorem ggX5_turn_X5_wrongBy : GoodIn wsX5_turn wsX5_wrongBy := goodIn_r _ [12] (by decide +kernel) (by decide +kernel)
set_option maxRecDepth 20000 in
theorem gX5_turn_X5_wrongBy : GoodIn wsX5_turn (va_wsS RX5 128 yX5_wrongBy wsX5_wrongBy) := goodIn_app (goodIn_of _ (by decide +kernel)) ggX5_turn_X5_wrongBy
set_option maxRecDepth 20000 in
theorem ggX5_turn_X5_no : GoodIn wsX5_turn wsX5_no := goodIn_r _ [16, 17, 21, 22, 23, 24, 25, 26, 27, 28, 29, 30, 31, 32, 33] (by decide +kernel) (by decide +kernel)
set_option maxRecDepth 20000 in
theorem gX5_turn_X5_no : GoodIn wsX5_turn (wsV RX5 35 RX5 yX5_no wsX5_no) := goodIn_app (goodIn_of _ (by decide +kernel)) ggX5_turn_X5_no
set_option maxRecDepth 20000 in
theorem ggX5_turn_X5_of : GoodIn wsX5_turn wsX5_of := goodIn_r _ [20] (by decide +kernel) (by decide +kernel)
set_option maxRecDepth 20000 in
theorem gX5_turn_X5_of : GoodIn wsX5_turn (va_wsS RX5 45 yX5_of wsX5_of) := goodIn_app (goodIn_of _ (by decide +kernel)) ggX5_turn_X5_of
theorem dX5_turn_0 : decode cX5_turn 0 = .ok (.aload_n 0, 1) := by decide +kernel
theorem dX5_turn_1 : decode cX5_turn 1 = .ok (.iload_n 1, 1) := by decide +kernel
theorem dX5_turn_2 : decode cX5_turn 2 = .ok (.invokevirtual 104, 3) := by decide +kernel
theorem dX5_turn_5 : decode cX5_turn 5 = .ok (.ifCond .ne 7, 3) := by decide +kernel
theorem dX5_turn_8 : decode cX5_turn 8 = .ok (.iconst (-1), 1) := by decide +kernel
theorem dX5_turn_9 : decode cX5_turn 9 = .ok (.goto 24, 3) := by decide +kernel
theorem dX5_turn_12 : decode cX5_turn 12 = .ok (.iload_n 2, 1) := by decide +kernel
theorem dX5_turn_13 : decode cX5_turn 13 = .ok (.iconst 0, 1) := by decide +kernel
theorem dX5_turn_14 : decode cX5_turn 14 = .ok (.iconst 5, 1) := by decide +kernel
theorem dX5_turn_15 : decode cX5_turn 15 = .ok (.invokestatic 41, 3) := by decide +kernel
theorem dX5_turn_18 : decode cX5_turn 18 = .ok (.ifCond .ne 8, 3) := by decide +kernel
theorem dX5_turn_21 : decode cX5_turn 21 = .ok (.bipush (-2), 2) := by decide +kernel
theorem dX5_turn_23 : decode cX5_turn 23 = .ok (.goto 10, 3) := by decide +kernel
theorem dX5_turn_26 : decode cX5_turn 26 = .ok (.iload_n 3, 1) := by decide +kernel
theorem dX5_turn_27 : decode cX5_turn 27 = .ok (.iconst 0, 1) := by decide +kernel
theorem dX5_turn_28 : decode cX5_turn 28 = .ok (.bipush 9, 2) := by decide +kernel
theorem dX5_turn_30 : decode cX5_turn 30 = .ok (.invokestatic 128, 3) := by decide +kernel
theorem dX5_turn_33 : decode cX5_turn 33 = .ok (.istore 4, 2) := by decide +kernel
theorem dX5_turn_35 : decode cX5_turn 35 = .ok (.iload 4, 2) := by decide +kernel
theorem dX5_turn_37 : decode cX5_turn 37 = .ok (.ifCond .eq 10, 3) := by decide +kernel
theorem dX5_turn_40 : decode cX5_turn 40 = .ok (.aload_n 0, 1) := by decide +kernel
theorem dX5_turn_41 : decode cX5_turn 41 = .ok (.iload 4, 2) := by decide +kernel
theorem dX5_turn_43 : decode cX5_turn 43 = .ok (.invokevirtual 35, 3) := by decide +kernel
theorem dX5_turn_46 : decode cX5_turn 46 = .ok (.ireturn, 1) := by decide +kernel
theorem dX5_turn_47 : decode cX5_turn 47 = .ok (.bipush 10, 2) := by decide +kernel
theorem dX5_turn_49 : decode cX5_turn 49 = .ok (.aload_n 0, 1) := by decide +kernel
theorem dX5_turn_50 : decode cX5_turn 50 = .ok (.getfield 9, 3) := by decide +kernel
theorem dX5_turn_53 : decode cX5_turn 53 = .ok (.iload_n 1, 1) := by decide +kernel
theorem dX5_turn_54 : decode cX5_turn 54 = .ok (.iconst 0, 1) := by decide +kernel
theorem dX5_turn_55 : decode cX5_turn 55 = .ok (.invokestatic 45, 3) := by decide +kernel
theorem dX5_turn_58 : decode cX5_turn 58 = .ok (.iaload, 1) := by decide +kernel
theorem dX5_turn_59 : decode cX5_turn 59 = .ok (.imul, 1) := by decide +kernel
theorem dX5_turn_60 : decode cX5_turn 60 = .ok (.aload_n 0, 1) := by decide +kernel
theorem dX5_turn_61 : decode cX5_turn 61 = .ok (.getfield 9, 3) := by decide +kernel
theorem dX5_turn_64 : decode cX5_turn 64 = .ok (.iload_n 1, 1) := by decide +kernel
theorem dX5_turn_65 : decode cX5_turn 65 = .ok (.iconst 1, 1) := by decide +kernel
theorem dX5_turn_66 : decode cX5_turn 66 = .ok (.invokestatic 45, 3) := by decide +kernel
theorem dX5_turn_69 : decode cX5_turn 69 = .ok (.iaload, 1) := by decide +kernel
theorem dX5_turn_70 : decode cX5_turn 70 = .ok (.iadd, 1) := by decide +kernel
theorem dX5_turn_71 : decode cX5_turn 71 = .ok (.istore 5, 2) := by decide +kernel
theorem dX5_turn_73 : decode cX5_turn 73 = .ok (.aload_n 0, 1) := by decide +kernel
theorem dX5_turn_74 : decode cX5_turn 74 = .ok (.getfield 9, 3) := by decide +kernel
theorem dX5_turn_77 : decode cX5_turn 77 = .ok (.iload_n 1, 1) := by decide +kernel
theorem dX5_turn_78 : decode cX5_turn 78 = .ok (.iconst 0, 1) := by decide +kernel
theorem dX5_turn_79 : decode cX5_turn 79 = .ok (.invokestatic 45, 3) := by decide +kernel
theorem dX5_turn_82 : decode cX5_turn 82 = .ok (.iload_n 2, 1) := by decide +kernel
theorem dX5_turn_83 : decode cX5_turn 83 = .ok (.iastore, 1) := by decide +kernel
theorem dX5_turn_84 : decode cX5_turn 84 = .ok (.aload_n 0, 1) := by decide +kernel
theorem dX5_turn_85 : decode cX5_turn 85 = .ok (.getfield 9, 3) := by decide +kernel
theorem dX5_turn_88 : decode cX5_turn 88 = .ok (.iload_n 1, 1) := by decide +kernel
theorem dX5_turn_89 : decode cX5_turn 89 = .ok (.iconst 1, 1) := by decide +kernel
theorem dX5_turn_90 : decode cX5_turn 90 = .ok (.invokestatic 45, 3) := by decide +kernel
theorem dX5_turn_93 : decode cX5_turn 93 = .ok (.iload_n 3, 1) := by decide +kernel
theorem dX5_turn_94 : decode cX5_turn 94 = .ok (.iastore, 1) := by decide +kernel
theorem dX5_turn_95 : decode cX5_turn 95 = .ok (.iload 5, 2) := by decide +kernel
theorem dX5_turn_97 : decode cX5_turn 97 = .ok (.ireturn, 1) := by decide +kernel
set_option maxRecDepth 20000 in
theorem ggX5_days_X5_no : GoodIn wsX5_days wsX5_no := goodIn_r _ [6, 7, 38, 39, 40, 41, 42, 43, 44, 45, 46, 47, 48, 49, 50] (by decide +kernel) (by decide +kernel)
set_option maxRecDepth 20000 in
theorem gX5_days_X5_no : GoodIn wsX5_days (wsV RX5 35 RX5 yX5_no wsX5_no) := goodIn_app (goodIn_of _ (by decide +kernel)) ggX5_days_X5_no
set_option maxRecDepth 20000 in
theorem ggX5_days_X5_allOf : GoodIn wsX5_days wsX5_allOf := goodIn_r _ [10, 11, 12, 5, 13] (by decide +kernel) (by decide +kernel)
set_option maxRecDepth 20000 in
theorem gX5_days_X5_allOf : GoodIn wsX5_days (va_wsS RX5 76 yX5_allOf wsX5_allOf) := goodIn_app (goodIn_of _ (by decide +kernel)) ggX5_days_X5_allOf
set_option maxRecDepth 20000 in
theorem ggX5_days_X5_daysOn : GoodIn wsX5_days wsX5_daysOn := goodIn_r _ [16, 17, 18, 5, 19, 11, 12, 13, 20, 21, 22, 23, 24, 25, 26, 27, 28, 29, 30, 31, 32, 33, 34, 35, 36, 37] (by decide +kernel) (by decide +kernel)
set_option maxRecDepth 20000 in
theorem gX5_days_X5_daysOn : GoodIn wsX5_days (va_wsS RX5 73 yX5_daysOn wsX5_daysOn) := goodIn_app (goodIn_of _ (by decide +kernel)) ggX5_days_X5_daysOn
theorem dX5_days_0 : decode cX5_days 0 = .ok (.iload_n 1, 1) := by decide +kernel
theorem dX5_days_1 : decode cX5_days 1 = .ok (.iconst 1, 1) := by decide +kernel
theorem dX5_days_2 : decode cX5_days 2 = .ok (.if_icmp .ge 10, 3) := by decide +kernel
theorem dX5_days_5 : decode cX5_days 5 = .ok (.aload_n 0, 1) := by decide +kernel
theorem dX5_days_6 : decode cX5_days 6 = .ok (.bipush (-4), 2) := by decide +kernel
theorem dX5_days_8 : decode cX5_days 8 = .ok (.invokevirtual 35, 3) := by decide +kernel
theorem dX5_days_11 : decode cX5_days 11 = .ok (.ireturn, 1) := by decide +kernel
theorem dX5_days_12 : decode cX5_days 12 = .ok (.iload_n 1, 1) := by decide +kernel
theorem dX5_days_13 : decode cX5_days 13 = .ok (.bipush 60, 2) := by decide +kernel
theorem dX5_days_15 : decode cX5_days 15 = .ok (.if_icmp .gt 17, 3) := by decide +kernel
theorem dX5_days_18 : decode cX5_days 18 = .ok (.aload_n 0, 1) := by decide +kernel
theorem dX5_days_19 : decode cX5_days 19 = .ok (.getfield 9, 3) := by decide +kernel
theorem dX5_days_22 : decode cX5_days 22 = .ok (.iconst 1, 1) := by decide +kernel
theorem dX5_days_23 : decode cX5_days 23 = .ok (.iaload, 1) := by decide +kernel
theorem dX5_days_24 : decode cX5_days 24 = .ok (.iload_n 1, 1) := by decide +kernel
theorem dX5_days_25 : decode cX5_days 25 = .ok (.iadd, 1) := by decide +kernel
theorem dX5_days_26 : decode cX5_days 26 = .ok (.sipush 999, 3) := by decide +kernel
theorem dX5_days_29 : decode cX5_days 29 = .ok (.if_icmp .le 10, 3) := by decide +kernel
theorem dX5_days_32 : decode cX5_days 32 = .ok (.aload_n 0, 1) := by decide +kernel
theorem dX5_days_33 : decode cX5_days 33 = .ok (.bipush (-6), 2) := by decide +kernel
theorem dX5_days_35 : decode cX5_days 35 = .ok (.invokevirtual 35, 3) := by decide +kernel
theorem dX5_days_38 : decode cX5_days 38 = .ok (.ireturn, 1) := by decide +kernel
theorem dX5_days_39 : decode cX5_days 39 = .ok (.aload_n 0, 1) := by decide +kernel
theorem dX5_days_40 : decode cX5_days 40 = .ok (.getfield 9, 3) := by decide +kernel
theorem dX5_days_43 : decode cX5_days 43 = .ok (.iconst 4, 1) := by decide +kernel
theorem dX5_days_44 : decode cX5_days 44 = .ok (.invokestatic 76, 3) := by decide +kernel
theorem dX5_days_47 : decode cX5_days 47 = .ok (.istore_n 2, 1) := by decide +kernel
theorem dX5_days_48 : decode cX5_days 48 = .ok (.aload_n 0, 1) := by decide +kernel
theorem dX5_days_49 : decode cX5_days 49 = .ok (.getfield 9, 3) := by decide +kernel
theorem dX5_days_52 : decode cX5_days 52 = .ok (.iload_n 1, 1) := by decide +kernel
theorem dX5_days_53 : decode cX5_days 53 = .ok (.invokestatic 73, 3) := by decide +kernel
theorem dX5_days_56 : decode cX5_days 56 = .ok (.aload_n 0, 1) := by decide +kernel
theorem dX5_days_57 : decode cX5_days 57 = .ok (.getfield 9, 3) := by decide +kernel
theorem dX5_days_60 : decode cX5_days 60 = .ok (.iconst 4, 1) := by decide +kernel
theorem dX5_days_61 : decode cX5_days 61 = .ok (.invokestatic 76, 3) := by decide +kernel
theorem dX5_days_64 : decode cX5_days 64 = .ok (.iload_n 2, 1) := by decide +kernel
theorem dX5_days_65 : decode cX5_days 65 = .ok (.isub, 1) := by decide +kernel
theorem dX5_days_66 : decode cX5_days 66 = .ok (.ireturn, 1) := by decide +kernel
set_option maxRecDepth 20000 in
theorem ggX5_takes_X5_copies : GoodIn wsX5_takes wsX5_copies := goodIn_r _ [6] (by decide +kernel) (by decide +kernel)
set_option maxRecDepth 20000 in
theorem gX5_takes_X5_copies : GoodIn wsX5_takes (va_wsS RX5 118 yX5_copies wsX5_copies) := goodIn_app (goodIn_of _ (by decide +kernel)) ggX5_takes_X5_copies
set_option maxRecDepth 20000 in
theorem ggX5_takes_X5_daysOn : GoodIn wsX5_takes wsX5_daysOn := goodIn_r _ [9, 10, 11, 5, 12, 13, 14, 15, 16, 17, 18, 19, 20, 21, 22, 23, 24, 25, 26, 27, 28, 29, 30, 31, 32, 33] (by decide +kernel) (by decide +kernel)
set_option maxRecDepth 20000 in
theorem gX5_takes_X5_daysOn : GoodIn wsX5_takes (va_wsS RX5 73 yX5_daysOn wsX5_daysOn) := goodIn_app (goodIn_of _ (by decide +kernel)) ggX5_takes_X5_daysOn
theorem dX5_takes_0 : decode cX5_takes 0 = .ok (.aload_n 0, 1) := by decide +kernel
theorem dX5_takes_1 : decode cX5_takes 1 = .ok (.getfield 9, 3) := by decide +kernel
theorem dX5_takes_4 : decode cX5_takes 4 = .ok (.aload_n 0, 1) := by decide +kernel
theorem dX5_takes_5 : decode cX5_takes 5 = .ok (.getfield 13, 3) := by decide +kernel
theorem dX5_takes_8 : decode cX5_takes 8 = .ok (.invokestatic 118, 3) := by decide +kernel
theorem dX5_takes_11 : decode cX5_takes 11 = .ok (.aload_n 0, 1) := by decide +kernel
theorem dX5_takes_12 : decode cX5_takes 12 = .ok (.getfield 13, 3) := by decide +kernel
theorem dX5_takes_15 : decode cX5_takes 15 = .ok (.iload_n 1, 1) := by decide +kernel
theorem dX5_takes_16 : decode cX5_takes 16 = .ok (.invokestatic 73, 3) := by decide +kernel
theorem dX5_takes_19 : decode cX5_takes 19 = .ok (.return_, 1) := by decide +kernel
set_option maxRecDepth 20000 in
theorem ggX5_personThen_X5_isOne : GoodIn wsX5_personThen wsX5_isOne := goodIn_r _ [7, 2, 8, 9, 6, 10, 53, 54, 55, 56, 57, 58, 59, 60, 61, 62, 63, 64, 65] (by decide +kernel) (by decide +kernel)
set_option maxRecDepth 20000 in
theorem gX5_personThen_X5_isOne : GoodIn wsX5_personThen (wsV RX5 104 RX5 yX5_isOne wsX5_isOne) := goodIn_app (goodIn_of _ (by decide +kernel)) ggX5_personThen_X5_isOne
set_option maxRecDepth 20000 in
theorem ggX5_personThen_X5_wrongBy : GoodIn wsX5_personThen wsX5_wrongBy := goodIn_r _ [13] (by decide +kernel) (by decide +kernel)
set_option maxRecDepth 20000 in
theorem gX5_personThen_X5_wrongBy : GoodIn wsX5_personThen (va_wsS RX5 128 yX5_wrongBy wsX5_wrongBy) := goodIn_app (goodIn_of _ (by decide +kernel)) ggX5_personThen_X5_wrongBy
set_option maxRecDepth 20000 in
theorem ggX5_personThen_X5_isIn : GoodIn wsX5_personThen wsX5_isIn := goodIn_r _ [10] (by decide +kernel) (by decide +kernel)
set_option maxRecDepth 20000 in
theorem gX5_personThen_X5_isIn : GoodIn wsX5_personThen (va_wsS RX5 41 yX5_isIn wsX5_isIn) := goodIn_app (goodIn_of _ (by decide +kernel)) ggX5_personThen_X5_isIn
set_option maxRecDepth 20000 in
theorem ggX5_personThen_X5_no : GoodIn wsX5_personThen wsX5_no := goodIn_r _ [17, 18, 53, 54, 55, 56, 57, 58, 59, 60, 61, 62, 63, 64, 65] (by decide +kernel) (by decide +kernel)
set_option maxRecDepth 20000 in
theorem gX5_personThen_X5_no : GoodIn wsX5_personThen (wsV RX5 35 RX5 yX5_no wsX5_no) := goodIn_app (goodIn_of _ (by decide +kernel)) ggX5_personThen_X5_no
set_option maxRecDepth 20000 in
theorem ggX5_personThen_X5_takes : GoodIn wsX5_personThen wsX5_takes := goodIn_r _ [22, 2, 1, 23, 24, 6, 25, 26, 27, 28, 29, 30, 31, 32, 33, 34, 35, 36, 37, 38, 39, 40, 41, 42, 43, 44, 45, 46, 47, 48, 49, 50, 51, 52, 53, 54, 55, 56, 57, 58, 59, 60, 61, 62, 63, 64, 65] (by decide +kernel) (by decide +kernel)
set_option maxRecDepth 20000 in
theorem gX5_personThen_X5_takes : GoodIn wsX5_personThen (wsV RX5 132 RX5 yX5_takes wsX5_takes) := goodIn_app (goodIn_of _ (by decide +kernel)) ggX5_personThen_X5_takes
set_option maxRecDepth 20000 in
theorem ggX5_personThen_X5_of : GoodIn wsX5_personThen wsX5_of := goodIn_r _ [34] (by decide +kernel) (by decide +kernel)
set_option maxRecDepth 20000 in
theorem gX5_personThen_X5_of : GoodIn wsX5_personThen (va_wsS RX5 45 yX5_of wsX5_of) := goodIn_app (goodIn_of _ (by decide +kernel)) ggX5_personThen_X5_of
theorem dX5_personThen_0 : decode cX5_personThen 0 = .ok (.aload_n 0, 1) := by decide +kernel
theorem dX5_personThen_1 : decode cX5_personThen 1 = .ok (.iload_n 1, 1) := by decide +kernel
theorem dX5_personThen_2 : decode cX5_personThen 2 = .ok (.invokevirtual 104, 3) := by decide +kernel
theorem dX5_personThen_5 : decode cX5_personThen 5 = .ok (.ifCond .eq 13, 3) := by decide +kernel
theorem dX5_personThen_8 : decode cX5_personThen 8 = .ok (.iload_n 2, 1) := by decide +kernel
theorem dX5_personThen_9 : decode cX5_personThen 9 = .ok (.iconst 0, 1) := by decide +kernel
theorem dX5_personThen_10 : decode cX5_personThen 10 = .ok (.bipush 99, 2) := by decide +kernel
theorem dX5_personThen_12 : decode cX5_personThen 12 = .ok (.invokestatic 128, 3) := by decide +kernel
theorem dX5_personThen_15 : decode cX5_personThen 15 = .ok (.goto 4, 3) := by decide +kernel
theorem dX5_personThen_18 : decode cX5_personThen 18 = .ok (.iconst (-1), 1) := by decide +kernel
theorem dX5_personThen_19 : decode cX5_personThen 19 = .ok (.istore 4, 2) := by decide +kernel
theorem dX5_personThen_21 : decode cX5_personThen 21 = .ok (.iload 4, 2) := by decide +kernel
theorem dX5_personThen_23 : decode cX5_personThen 23 = .ok (.ifCond .ne 16, 3) := by decide +kernel
theorem dX5_personThen_26 : decode cX5_personThen 26 = .ok (.iload_n 3, 1) := by decide +kernel
theorem dX5_personThen_27 : decode cX5_personThen 27 = .ok (.iconst 0, 1) := by decide +kernel
theorem dX5_personThen_28 : decode cX5_personThen 28 = .ok (.iconst 4, 1) := by decide +kernel
theorem dX5_personThen_29 : decode cX5_personThen 29 = .ok (.invokestatic 41, 3) := by decide +kernel
theorem dX5_personThen_32 : decode cX5_personThen 32 = .ok (.ifCond .ne 7, 3) := by decide +kernel
theorem dX5_personThen_35 : decode cX5_personThen 35 = .ok (.bipush (-2), 2) := by decide +kernel
theorem dX5_personThen_37 : decode cX5_personThen 37 = .ok (.istore 4, 2) := by decide +kernel
theorem dX5_personThen_39 : decode cX5_personThen 39 = .ok (.iload 4, 2) := by decide +kernel
theorem dX5_personThen_41 : decode cX5_personThen 41 = .ok (.ifCond .eq 10, 3) := by decide +kernel
theorem dX5_personThen_44 : decode cX5_personThen 44 = .ok (.aload_n 0, 1) := by decide +kernel
theorem dX5_personThen_45 : decode cX5_personThen 45 = .ok (.iload 4, 2) := by decide +kernel
theorem dX5_personThen_47 : decode cX5_personThen 47 = .ok (.invokevirtual 35, 3) := by decide +kernel
theorem dX5_personThen_50 : decode cX5_personThen 50 = .ok (.ireturn, 1) := by decide +kernel
theorem dX5_personThen_51 : decode cX5_personThen 51 = .ok (.aload_n 0, 1) := by decide +kernel
theorem dX5_personThen_52 : decode cX5_personThen 52 = .ok (.iload_n 2, 1) := by decide +kernel
theorem dX5_personThen_53 : decode cX5_personThen 53 = .ok (.invokevirtual 132, 3) := by decide +kernel
theorem dX5_personThen_56 : decode cX5_personThen 56 = .ok (.iload_n 3, 1) := by decide +kernel
theorem dX5_personThen_57 : decode cX5_personThen 57 = .ok (.iconst 4, 1) := by decide +kernel
theorem dX5_personThen_58 : decode cX5_personThen 58 = .ok (.if_icmp .ge 16, 3) := by decide +kernel
theorem dX5_personThen_61 : decode cX5_personThen 61 = .ok (.aload_n 0, 1) := by decide +kernel
theorem dX5_personThen_62 : decode cX5_personThen 62 = .ok (.getfield 13, 3) := by decide +kernel
theorem dX5_personThen_65 : decode cX5_personThen 65 = .ok (.iload_n 1, 1) := by decide +kernel
theorem dX5_personThen_66 : decode cX5_personThen 66 = .ok (.iconst 2, 1) := by decide +kernel
theorem dX5_personThen_67 : decode cX5_personThen 67 = .ok (.iload_n 3, 1) := by decide +kernel
theorem dX5_personThen_68 : decode cX5_personThen 68 = .ok (.iadd, 1) := by decide +kernel
theorem dX5_personThen_69 : decode cX5_personThen 69 = .ok (.invokestatic 45, 3) := by decide +kernel
theorem dX5_personThen_72 : decode cX5_personThen 72 = .ok (.iaload, 1) := by decide +kernel
theorem dX5_personThen_73 : decode cX5_personThen 73 = .ok (.ireturn, 1) := by decide +kernel
theorem dX5_personThen_74 : decode cX5_personThen 74 = .ok (.aload_n 0, 1) := by decide +kernel
theorem dX5_personThen_75 : decode cX5_personThen 75 = .ok (.getfield 13, 3) := by decide +kernel
theorem dX5_personThen_78 : decode cX5_personThen 78 = .ok (.iload_n 1, 1) := by decide +kernel
theorem dX5_personThen_79 : decode cX5_personThen 79 = .ok (.iconst 5, 1) := by decide +kernel
theorem dX5_personThen_80 : decode cX5_personThen 80 = .ok (.invokestatic 45, 3) := by decide +kernel
theorem dX5_personThen_83 : decode cX5_personThen 83 = .ok (.iaload, 1) := by decide +kernel
theorem dX5_personThen_84 : decode cX5_personThen 84 = .ok (.aload_n 0, 1) := by decide +kernel
theorem dX5_personThen_85 : decode cX5_personThen 85 = .ok (.getfield 9, 3) := by decide +kernel
theorem dX5_personThen_88 : decode cX5_personThen 88 = .ok (.iload_n 1, 1) := by decide +kernel
theorem dX5_personThen_89 : decode cX5_personThen 89 = .ok (.iconst 5, 1) := by decide +kernel
theorem dX5_personThen_90 : decode cX5_personThen 90 = .ok (.invokestatic 45, 3) := by decide +kernel
theorem dX5_personThen_93 : decode cX5_personThen 93 = .ok (.iaload, 1) := by decide +kernel
theorem dX5_personThen_94 : decode cX5_personThen 94 = .ok (.if_icmp .le 7, 3) := by decide +kernel
theorem dX5_personThen_97 : decode cX5_personThen 97 = .ok (.iconst 1, 1) := by decide +kernel
theorem dX5_personThen_98 : decode cX5_personThen 98 = .ok (.goto 4, 3) := by decide +kernel
theorem dX5_personThen_101 : decode cX5_personThen 101 = .ok (.iconst 0, 1) := by decide +kernel
theorem dX5_personThen_102 : decode cX5_personThen 102 = .ok (.ireturn, 1) := by decide +kernel
set_option maxRecDepth 20000 in
theorem ggX5_allThen_X5_wrongBy : GoodIn wsX5_allThen wsX5_wrongBy := goodIn_r _ [5] (by decide +kernel) (by decide +kernel)
set_option maxRecDepth 20000 in
theorem gX5_allThen_X5_wrongBy : GoodIn wsX5_allThen (va_wsS RX5 128 yX5_wrongBy wsX5_wrongBy) := goodIn_app (goodIn_of _ (by decide +kernel)) ggX5_allThen_X5_wrongBy
set_option maxRecDepth 20000 in
theorem ggX5_allThen_X5_isIn : GoodIn wsX5_allThen wsX5_isIn := goodIn_r _ [8] (by decide +kernel) (by decide +kernel)
set_option maxRecDepth 20000 in
theorem gX5_allThen_X5_isIn : GoodIn wsX5_allThen (va_wsS RX5 41 yX5_isIn wsX5_isIn) := goodIn_app (goodIn_of _ (by decide +kernel)) ggX5_allThen_X5_isIn
set_option maxRecDepth 20000 in
theorem ggX5_allThen_X5_no : GoodIn wsX5_allThen wsX5_no := goodIn_r _ [12, 13, 52, 53, 54, 55, 56, 57, 58, 59, 60, 61, 62, 63, 64] (by decide +kernel) (by decide +kernel)
set_option maxRecDepth 20000 in
theorem gX5_allThen_X5_no : GoodIn wsX5_allThen (wsV RX5 35 RX5 yX5_no wsX5_no) := goodIn_app (goodIn_of _ (by decide +kernel)) ggX5_allThen_X5_no
set_option maxRecDepth 20000 in
theorem ggX5_allThen_X5_takes : GoodIn wsX5_allThen wsX5_takes := goodIn_r _ [17, 18, 1, 19, 20, 4, 21, 22, 23, 24, 25, 26, 27, 28, 29, 30, 31, 32, 33, 34, 35, 36, 37, 38, 39, 40, 41, 42, 43, 44, 45, 46, 47, 48, 52, 53, 54, 55, 56, 57, 58, 59, 60, 61, 62, 63, 64] (by decide +kernel) (by decide +kernel)
set_option maxRecDepth 20000 in
theorem gX5_allThen_X5_takes : GoodIn wsX5_allThen (wsV RX5 132 RX5 yX5_takes wsX5_takes) := goodIn_app (goodIn_of _ (by decide +kernel)) ggX5_allThen_X5_takes
set_option maxRecDepth 20000 in
theorem ggX5_allThen_X5_allOf : GoodIn wsX5_allThen wsX5_allOf := goodIn_r _ [51, 28, 29, 4, 30] (by decide +kernel) (by decide +kernel)
set_option maxRecDepth 20000 in
theorem gX5_allThen_X5_allOf : GoodIn wsX5_allThen (va_wsS RX5 76 yX5_allOf wsX5_allOf) := goodIn_app (goodIn_of _ (by decide +kernel)) ggX5_allThen_X5_allOf
theorem dX5_allThen_0 : decode cX5_allThen 0 = .ok (.iload_n 1, 1) := by decide +kernel
theorem dX5_allThen_1 : decode cX5_allThen 1 = .ok (.iconst 0, 1) := by decide +kernel
theorem dX5_allThen_2 : decode cX5_allThen 2 = .ok (.bipush 99, 2) := by decide +kernel
theorem dX5_allThen_4 : decode cX5_allThen 4 = .ok (.invokestatic 128, 3) := by decide +kernel
theorem dX5_allThen_7 : decode cX5_allThen 7 = .ok (.istore_n 3, 1) := by decide +kernel
theorem dX5_allThen_8 : decode cX5_allThen 8 = .ok (.iload_n 3, 1) := by decide +kernel
theorem dX5_allThen_9 : decode cX5_allThen 9 = .ok (.ifCond .ne 15, 3) := by decide +kernel
theorem dX5_allThen_12 : decode cX5_allThen 12 = .ok (.iload_n 2, 1) := by decide +kernel
theorem dX5_allThen_13 : decode cX5_allThen 13 = .ok (.iconst 0, 1) := by decide +kernel
theorem dX5_allThen_14 : decode cX5_allThen 14 = .ok (.iconst 2, 1) := by decide +kernel
theorem dX5_allThen_15 : decode cX5_allThen 15 = .ok (.invokestatic 41, 3) := by decide +kernel
theorem dX5_allThen_18 : decode cX5_allThen 18 = .ok (.ifCond .ne 6, 3) := by decide +kernel
theorem dX5_allThen_21 : decode cX5_allThen 21 = .ok (.bipush (-2), 2) := by decide +kernel
theorem dX5_allThen_23 : decode cX5_allThen 23 = .ok (.istore_n 3, 1) := by decide +kernel
theorem dX5_allThen_24 : decode cX5_allThen 24 = .ok (.iload_n 3, 1) := by decide +kernel
theorem dX5_allThen_25 : decode cX5_allThen 25 = .ok (.ifCond .eq 9, 3) := by decide +kernel
theorem dX5_allThen_28 : decode cX5_allThen 28 = .ok (.aload_n 0, 1) := by decide +kernel
theorem dX5_allThen_29 : decode cX5_allThen 29 = .ok (.iload_n 3, 1) := by decide +kernel
theorem dX5_allThen_30 : decode cX5_allThen 30 = .ok (.invokevirtual 35, 3) := by decide +kernel
theorem dX5_allThen_33 : decode cX5_allThen 33 = .ok (.ireturn, 1) := by decide +kernel
theorem dX5_allThen_34 : decode cX5_allThen 34 = .ok (.aload_n 0, 1) := by decide +kernel
theorem dX5_allThen_35 : decode cX5_allThen 35 = .ok (.iload_n 1, 1) := by decide +kernel
theorem dX5_allThen_36 : decode cX5_allThen 36 = .ok (.invokevirtual 132, 3) := by decide +kernel
theorem dX5_allThen_39 : decode cX5_allThen 39 = .ok (.iload_n 2, 1) := by decide +kernel
theorem dX5_allThen_40 : decode cX5_allThen 40 = .ok (.ifCond .ne 14, 3) := by decide +kernel
theorem dX5_allThen_43 : decode cX5_allThen 43 = .ok (.aload_n 0, 1) := by decide +kernel
theorem dX5_allThen_44 : decode cX5_allThen 44 = .ok (.getfield 13, 3) := by decide +kernel
theorem dX5_allThen_47 : decode cX5_allThen 47 = .ok (.iconst 4, 1) := by decide +kernel
theorem dX5_allThen_48 : decode cX5_allThen 48 = .ok (.invokestatic 76, 3) := by decide +kernel
theorem dX5_allThen_51 : decode cX5_allThen 51 = .ok (.goto 25, 3) := by decide +kernel
theorem dX5_allThen_54 : decode cX5_allThen 54 = .ok (.iload_n 2, 1) := by decide +kernel
theorem dX5_allThen_55 : decode cX5_allThen 55 = .ok (.iconst 1, 1) := by decide +kernel
theorem dX5_allThen_56 : decode cX5_allThen 56 = .ok (.if_icmp .ne 14, 3) := by decide +kernel
theorem dX5_allThen_59 : decode cX5_allThen 59 = .ok (.aload_n 0, 1) := by decide +kernel
theorem dX5_allThen_60 : decode cX5_allThen 60 = .ok (.getfield 13, 3) := by decide +kernel
theorem dX5_allThen_63 : decode cX5_allThen 63 = .ok (.iconst 5, 1) := by decide +kernel
theorem dX5_allThen_64 : decode cX5_allThen 64 = .ok (.invokestatic 76, 3) := by decide +kernel
theorem dX5_allThen_67 : decode cX5_allThen 67 = .ok (.goto 9, 3) := by decide +kernel
theorem dX5_allThen_70 : decode cX5_allThen 70 = .ok (.aload_n 0, 1) := by decide +kernel
theorem dX5_allThen_71 : decode cX5_allThen 71 = .ok (.getfield 13, 3) := by decide +kernel
theorem dX5_allThen_74 : decode cX5_allThen 74 = .ok (.iconst 3, 1) := by decide +kernel
theorem dX5_allThen_75 : decode cX5_allThen 75 = .ok (.iaload, 1) := by decide +kernel
theorem dX5_allThen_76 : decode cX5_allThen 76 = .ok (.ireturn, 1) := by decide +kernel
set_option maxRecDepth 20000 in
theorem ggX5_first_X5_isIn : GoodIn wsX5_first wsX5_isIn := goodIn_r _ [7] (by decide +kernel) (by decide +kernel)
set_option maxRecDepth 20000 in
theorem gX5_first_X5_isIn : GoodIn wsX5_first (va_wsS RX5 41 yX5_isIn wsX5_isIn) := goodIn_app (goodIn_of _ (by decide +kernel)) ggX5_first_X5_isIn
set_option maxRecDepth 20000 in
theorem ggX5_first_X5_no : GoodIn wsX5_first wsX5_no := goodIn_r _ [11, 12, 44, 45, 46, 47, 48, 49, 50, 51, 52, 53, 54, 55, 56] (by decide +kernel) (by decide +kernel)
set_option maxRecDepth 20000 in
theorem gX5_first_X5_no : GoodIn wsX5_first (wsV RX5 35 RX5 yX5_no wsX5_no) := goodIn_app (goodIn_of _ (by decide +kernel)) ggX5_first_X5_no
set_option maxRecDepth 20000 in
theorem ggX5_first_X5_copies : GoodIn wsX5_first wsX5_copies := goodIn_r _ [15] (by decide +kernel) (by decide +kernel)
set_option maxRecDepth 20000 in
theorem gX5_first_X5_copies : GoodIn wsX5_first (va_wsS RX5 118 yX5_copies wsX5_copies) := goodIn_app (goodIn_of _ (by decide +kernel)) ggX5_first_X5_copies
set_option maxRecDepth 20000 in
theorem ggX5_first_X5_day : GoodIn wsX5_first wsX5_day := goodIn_r _ [18, 19, 20, 6, 21, 22, 23, 24, 25, 26, 27, 28, 29, 30, 31, 32, 33, 34, 35, 36, 37, 38, 39] (by decide +kernel) (by decide +kernel)
set_option maxRecDepth 20000 in
theorem gX5_first_X5_day : GoodIn wsX5_first (va_wsS RX5 69 yX5_day wsX5_day) := goodIn_app (goodIn_of _ (by decide +kernel)) ggX5_first_X5_day
set_option maxRecDepth 20000 in
theorem ggX5_first_X5_isShortOn : GoodIn wsX5_first wsX5_isShortOn := goodIn_r _ [43, 3, 19, 20, 6, 21, 25, 26, 27, 44, 45, 46, 47, 48, 49, 50, 51, 52, 53, 54, 55, 56] (by decide +kernel) (by decide +kernel)
set_option maxRecDepth 20000 in
theorem gX5_first_X5_isShortOn : GoodIn wsX5_first (wsV RX5 136 RX5 yX5_isShortOn wsX5_isShortOn) := goodIn_app (goodIn_of _ (by decide +kernel)) ggX5_first_X5_isShortOn
theorem dX5_first_0 : decode cX5_first 0 = .ok (.iload_n 1, 1) := by decide +kernel
theorem dX5_first_1 : decode cX5_first 1 = .ok (.iconst 0, 1) := by decide +kernel
theorem dX5_first_2 : decode cX5_first 2 = .ok (.iconst 1, 1) := by decide +kernel
theorem dX5_first_3 : decode cX5_first 3 = .ok (.invokestatic 41, 3) := by decide +kernel
theorem dX5_first_6 : decode cX5_first 6 = .ok (.ifCond .ne 10, 3) := by decide +kernel
theorem dX5_first_9 : decode cX5_first 9 = .ok (.aload_n 0, 1) := by decide +kernel
theorem dX5_first_10 : decode cX5_first 10 = .ok (.bipush (-2), 2) := by decide +kernel
theorem dX5_first_12 : decode cX5_first 12 = .ok (.invokevirtual 35, 3) := by decide +kernel
theorem dX5_first_15 : decode cX5_first 15 = .ok (.ireturn, 1) := by decide +kernel
theorem dX5_first_16 : decode cX5_first 16 = .ok (.aload_n 0, 1) := by decide +kernel
theorem dX5_first_17 : decode cX5_first 17 = .ok (.getfield 9, 3) := by decide +kernel
theorem dX5_first_20 : decode cX5_first 20 = .ok (.aload_n 0, 1) := by decide +kernel
theorem dX5_first_21 : decode cX5_first 21 = .ok (.getfield 13, 3) := by decide +kernel
theorem dX5_first_24 : decode cX5_first 24 = .ok (.invokestatic 118, 3) := by decide +kernel
theorem dX5_first_27 : decode cX5_first 27 = .ok (.iconst 1, 1) := by decide +kernel
theorem dX5_first_28 : decode cX5_first 28 = .ok (.istore_n 2, 1) := by decide +kernel
theorem dX5_first_29 : decode cX5_first 29 = .ok (.iload_n 2, 1) := by decide +kernel
theorem dX5_first_30 : decode cX5_first 30 = .ok (.bipush 99, 2) := by decide +kernel
theorem dX5_first_32 : decode cX5_first 32 = .ok (.if_icmp .gt 63, 3) := by decide +kernel
theorem dX5_first_35 : decode cX5_first 35 = .ok (.aload_n 0, 1) := by decide +kernel
theorem dX5_first_36 : decode cX5_first 36 = .ok (.getfield 13, 3) := by decide +kernel
theorem dX5_first_39 : decode cX5_first 39 = .ok (.aload_n 0, 1) := by decide +kernel
theorem dX5_first_40 : decode cX5_first 40 = .ok (.getfield 19, 3) := by decide +kernel
theorem dX5_first_43 : decode cX5_first 43 = .ok (.invokestatic 118, 3) := by decide +kernel
theorem dX5_first_46 : decode cX5_first 46 = .ok (.aload_n 0, 1) := by decide +kernel
theorem dX5_first_47 : decode cX5_first 47 = .ok (.getfield 13, 3) := by decide +kernel
theorem dX5_first_50 : decode cX5_first 50 = .ok (.invokestatic 69, 3) := by decide +kernel
theorem dX5_first_53 : decode cX5_first 53 = .ok (.iconst 0, 1) := by decide +kernel
theorem dX5_first_54 : decode cX5_first 54 = .ok (.istore_n 3, 1) := by decide +kernel
theorem dX5_first_55 : decode cX5_first 55 = .ok (.iload_n 3, 1) := by decide +kernel
theorem dX5_first_56 : decode cX5_first 56 = .ok (.aload_n 0, 1) := by decide +kernel
theorem dX5_first_57 : decode cX5_first 57 = .ok (.getfield 9, 3) := by decide +kernel
theorem dX5_first_60 : decode cX5_first 60 = .ok (.iconst 0, 1) := by decide +kernel
theorem dX5_first_61 : decode cX5_first 61 = .ok (.iaload, 1) := by decide +kernel
theorem dX5_first_62 : decode cX5_first 62 = .ok (.if_icmp .ge 27, 3) := by decide +kernel
theorem dX5_first_65 : decode cX5_first 65 = .ok (.aload_n 0, 1) := by decide +kernel
theorem dX5_first_66 : decode cX5_first 66 = .ok (.iload_n 3, 1) := by decide +kernel
theorem dX5_first_67 : decode cX5_first 67 = .ok (.invokevirtual 136, 3) := by decide +kernel
theorem dX5_first_70 : decode cX5_first 70 = .ok (.ifCond .eq 13, 3) := by decide +kernel
theorem dX5_first_73 : decode cX5_first 73 = .ok (.iload_n 1, 1) := by decide +kernel
theorem dX5_first_74 : decode cX5_first 74 = .ok (.ifCond .ne 7, 3) := by decide +kernel
theorem dX5_first_77 : decode cX5_first 77 = .ok (.iload_n 3, 1) := by decide +kernel
theorem dX5_first_78 : decode cX5_first 78 = .ok (.goto 4, 3) := by decide +kernel
theorem dX5_first_81 : decode cX5_first 81 = .ok (.iload_n 2, 1) := by decide +kernel
theorem dX5_first_82 : decode cX5_first 82 = .ok (.ireturn, 1) := by decide +kernel
theorem dX5_first_83 : decode cX5_first 83 = .ok (.iinc 3 1, 3) := by decide +kernel
theorem dX5_first_86 : decode cX5_first 86 = .ok (.goto (-31), 3) := by decide +kernel
theorem dX5_first_89 : decode cX5_first 89 = .ok (.iinc 2 1, 3) := by decide +kernel
theorem dX5_first_92 : decode cX5_first 92 = .ok (.goto (-63), 3) := by decide +kernel
theorem dX5_first_95 : decode cX5_first 95 = .ok (.bipush (-9), 2) := by decide +kernel
theorem dX5_first_97 : decode cX5_first 97 = .ok (.ireturn, 1) := by decide +kernel
set_option maxRecDepth 20000 in
theorem ggX5_isShortOn_X5_of : GoodIn wsX5_isShortOn wsX5_of := goodIn_r _ [5] (by decide +kernel) (by decide +kernel)
set_option maxRecDepth 20000 in
theorem gX5_isShortOn_X5_of : GoodIn wsX5_isShortOn (va_wsS RX5 45 yX5_of wsX5_of) := goodIn_app (goodIn_of _ (by decide +kernel)) ggX5_isShortOn_X5_of
set_option maxRecDepth 20000 in
theorem ggX5_isShortOn_X5_needs : GoodIn wsX5_isShortOn wsX5_needs := goodIn_r _ [8, 2, 3, 4, 5] (by decide +kernel) (by decide +kernel)
set_option maxRecDepth 20000 in
theorem gX5_isShortOn_X5_needs : GoodIn wsX5_isShortOn (va_wsS RX5 49 yX5_needs wsX5_needs) := goodIn_app (goodIn_of _ (by decide +kernel)) ggX5_isShortOn_X5_needs
theorem dX5_isShortOn_0 : decode cX5_isShortOn 0 = .ok (.aload_n 0, 1) := by decide +kernel
theorem dX5_isShortOn_1 : decode cX5_isShortOn 1 = .ok (.getfield 19, 3) := by decide +kernel
theorem dX5_isShortOn_4 : decode cX5_isShortOn 4 = .ok (.iload_n 1, 1) := by decide +kernel
theorem dX5_isShortOn_5 : decode cX5_isShortOn 5 = .ok (.iconst 3, 1) := by decide +kernel
theorem dX5_isShortOn_6 : decode cX5_isShortOn 6 = .ok (.invokestatic 45, 3) := by decide +kernel
theorem dX5_isShortOn_9 : decode cX5_isShortOn 9 = .ok (.iaload, 1) := by decide +kernel
theorem dX5_isShortOn_10 : decode cX5_isShortOn 10 = .ok (.iconst 1, 1) := by decide +kernel
theorem dX5_isShortOn_11 : decode cX5_isShortOn 11 = .ok (.if_icmp .ne 28, 3) := by decide +kernel
theorem dX5_isShortOn_14 : decode cX5_isShortOn 14 = .ok (.aload_n 0, 1) := by decide +kernel
theorem dX5_isShortOn_15 : decode cX5_isShortOn 15 = .ok (.getfield 19, 3) := by decide +kernel
theorem dX5_isShortOn_18 : decode cX5_isShortOn 18 = .ok (.iload_n 1, 1) := by decide +kernel
theorem dX5_isShortOn_19 : decode cX5_isShortOn 19 = .ok (.iconst 2, 1) := by decide +kernel
theorem dX5_isShortOn_20 : decode cX5_isShortOn 20 = .ok (.invokestatic 45, 3) := by decide +kernel
theorem dX5_isShortOn_23 : decode cX5_isShortOn 23 = .ok (.iaload, 1) := by decide +kernel
theorem dX5_isShortOn_24 : decode cX5_isShortOn 24 = .ok (.aload_n 0, 1) := by decide +kernel
theorem dX5_isShortOn_25 : decode cX5_isShortOn 25 = .ok (.getfield 19, 3) := by decide +kernel
theorem dX5_isShortOn_28 : decode cX5_isShortOn 28 = .ok (.iload_n 1, 1) := by decide +kernel
theorem dX5_isShortOn_29 : decode cX5_isShortOn 29 = .ok (.invokestatic 49, 3) := by decide +kernel
theorem dX5_isShortOn_32 : decode cX5_isShortOn 32 = .ok (.if_icmp .ge 7, 3) := by decide +kernel
theorem dX5_isShortOn_35 : decode cX5_isShortOn 35 = .ok (.iconst 1, 1) := by decide +kernel
theorem dX5_isShortOn_36 : decode cX5_isShortOn 36 = .ok (.goto 4, 3) := by decide +kernel
theorem dX5_isShortOn_39 : decode cX5_isShortOn 39 = .ok (.iconst 0, 1) := by decide +kernel
theorem dX5_isShortOn_40 : decode cX5_isShortOn 40 = .ok (.ireturn, 1) := by decide +kernel
set_option maxRecDepth 20000 in
theorem ggX5_isThroughOn_X5_of : GoodIn wsX5_isThroughOn wsX5_of := goodIn_r _ [5] (by decide +kernel) (by decide +kernel)
set_option maxRecDepth 20000 in
theorem gX5_isThroughOn_X5_of : GoodIn wsX5_isThroughOn (va_wsS RX5 45 yX5_of wsX5_of) := goodIn_app (goodIn_of _ (by decide +kernel)) ggX5_isThroughOn_X5_of
set_option maxRecDepth 20000 in
theorem ggX5_isThroughOn_X5_needs : GoodIn wsX5_isThroughOn wsX5_needs := goodIn_r _ [8, 2, 3, 4, 5] (by decide +kernel) (by decide +kernel)
set_option maxRecDepth 20000 in
theorem gX5_isThroughOn_X5_needs : GoodIn wsX5_isThroughOn (va_wsS RX5 49 yX5_needs wsX5_needs) := goodIn_app (goodIn_of _ (by decide +kernel)) ggX5_isThroughOn_X5_needs
theorem dX5_isThroughOn_0 : decode cX5_isThroughOn 0 = .ok (.aload_n 0, 1) := by decide +kernel
theorem dX5_isThroughOn_1 : decode cX5_isThroughOn 1 = .ok (.getfield 19, 3) := by decide +kernel
theorem dX5_isThroughOn_4 : decode cX5_isThroughOn 4 = .ok (.iload_n 1, 1) := by decide +kernel
theorem dX5_isThroughOn_5 : decode cX5_isThroughOn 5 = .ok (.iconst 3, 1) := by decide +kernel
theorem dX5_isThroughOn_6 : decode cX5_isThroughOn 6 = .ok (.invokestatic 45, 3) := by decide +kernel
theorem dX5_isThroughOn_9 : decode cX5_isThroughOn 9 = .ok (.iaload, 1) := by decide +kernel
theorem dX5_isThroughOn_10 : decode cX5_isThroughOn 10 = .ok (.iconst 1, 1) := by decide +kernel
theorem dX5_isThroughOn_11 : decode cX5_isThroughOn 11 = .ok (.if_icmp .ne 28, 3) := by decide +kernel
theorem dX5_isThroughOn_14 : decode cX5_isThroughOn 14 = .ok (.aload_n 0, 1) := by decide +kernel
theorem dX5_isThroughOn_15 : decode cX5_isThroughOn 15 = .ok (.getfield 19, 3) := by decide +kernel
theorem dX5_isThroughOn_18 : decode cX5_isThroughOn 18 = .ok (.iload_n 1, 1) := by decide +kernel
theorem dX5_isThroughOn_19 : decode cX5_isThroughOn 19 = .ok (.iconst 2, 1) := by decide +kernel
theorem dX5_isThroughOn_20 : decode cX5_isThroughOn 20 = .ok (.invokestatic 45, 3) := by decide +kernel
theorem dX5_isThroughOn_23 : decode cX5_isThroughOn 23 = .ok (.iaload, 1) := by decide +kernel
theorem dX5_isThroughOn_24 : decode cX5_isThroughOn 24 = .ok (.aload_n 0, 1) := by decide +kernel
theorem dX5_isThroughOn_25 : decode cX5_isThroughOn 25 = .ok (.getfield 19, 3) := by decide +kernel
theorem dX5_isThroughOn_28 : decode cX5_isThroughOn 28 = .ok (.iload_n 1, 1) := by decide +kernel
theorem dX5_isThroughOn_29 : decode cX5_isThroughOn 29 = .ok (.invokestatic 49, 3) := by decide +kernel
theorem dX5_isThroughOn_32 : decode cX5_isThroughOn 32 = .ok (.if_icmp .lt 7, 3) := by decide +kernel
theorem dX5_isThroughOn_35 : decode cX5_isThroughOn 35 = .ok (.iconst 1, 1) := by decide +kernel
theorem dX5_isThroughOn_36 : decode cX5_isThroughOn 36 = .ok (.goto 4, 3) := by decide +kernel
theorem dX5_isThroughOn_39 : decode cX5_isThroughOn 39 = .ok (.iconst 0, 1) := by decide +kernel
theorem dX5_isThroughOn_40 : decode cX5_isThroughOn 40 = .ok (.ireturn, 1) := by decide +kernel
set_option maxRecDepth 20000 in
theorem ggX5_lasts_X5_isOne : GoodIn wsX5_lasts wsX5_isOne := goodIn_r _ [8, 1, 9, 10, 7, 11, 52, 53, 54, 55, 56, 57, 58, 59, 60, 61, 62, 63, 64] (by decide +kernel) (by decide +kernel)
set_option maxRecDepth 20000 in
theorem gX5_lasts_X5_isOne : GoodIn wsX5_lasts (wsV RX5 104 RX5 yX5_isOne wsX5_isOne) := goodIn_app (goodIn_of _ (by decide +kernel)) ggX5_lasts_X5_isOne
set_option maxRecDepth 20000 in
theorem ggX5_lasts_X5_no : GoodIn wsX5_lasts wsX5_no := goodIn_r _ [15, 16, 52, 53, 54, 55, 56, 57, 58, 59, 60, 61, 62, 63, 64] (by decide +kernel) (by decide +kernel)
set_option maxRecDepth 20000 in
theorem gX5_lasts_X5_no : GoodIn wsX5_lasts (wsV RX5 35 RX5 yX5_no wsX5_no) := goodIn_app (goodIn_of _ (by decide +kernel)) ggX5_lasts_X5_no
set_option maxRecDepth 20000 in
theorem ggX5_lasts_X5_copies : GoodIn wsX5_lasts wsX5_copies := goodIn_r _ [19] (by decide +kernel) (by decide +kernel)
set_option maxRecDepth 20000 in
theorem gX5_lasts_X5_copies : GoodIn wsX5_lasts (va_wsS RX5 118 yX5_copies wsX5_copies) := goodIn_app (goodIn_of _ (by decide +kernel)) ggX5_lasts_X5_copies
set_option maxRecDepth 20000 in
theorem ggX5_lasts_X5_day : GoodIn wsX5_lasts wsX5_day := goodIn_r _ [22, 23, 24, 7, 25, 26, 27, 28, 29, 30, 31, 32, 33, 34, 35, 36, 37, 38, 39, 40, 41, 42, 43] (by decide +kernel) (by decide +kernel)
set_option maxRecDepth 20000 in
theorem gX5_lasts_X5_day : GoodIn wsX5_lasts (va_wsS RX5 69 yX5_day wsX5_day) := goodIn_app (goodIn_of _ (by decide +kernel)) ggX5_lasts_X5_day
set_option maxRecDepth 20000 in
theorem ggX5_lasts_X5_isShortOn : GoodIn wsX5_lasts wsX5_isShortOn := goodIn_r _ [47, 3, 23, 24, 7, 25, 29, 30, 31, 52, 53, 54, 55, 56, 57, 58, 59, 60, 61, 62, 63, 64] (by decide +kernel) (by decide +kernel)
set_option maxRecDepth 20000 in
theorem gX5_lasts_X5_isShortOn : GoodIn wsX5_lasts (wsV RX5 136 RX5 yX5_isShortOn wsX5_isShortOn) := goodIn_app (goodIn_of _ (by decide +kernel)) ggX5_lasts_X5_isShortOn
set_option maxRecDepth 20000 in
theorem ggX5_lasts_X5_isThroughOn : GoodIn wsX5_lasts wsX5_isThroughOn := goodIn_r _ [51, 3, 23, 24, 7, 25, 29, 30, 31, 52, 53, 54, 55, 56, 57, 58, 59, 60, 61, 62, 63, 64] (by decide +kernel) (by decide +kernel)
set_option maxRecDepth 20000 in
theorem gX5_lasts_X5_isThroughOn : GoodIn wsX5_lasts (wsV RX5 139 RX5 yX5_isThroughOn wsX5_isThroughOn) := goodIn_app (goodIn_of _ (by decide +kernel)) ggX5_lasts_X5_isThroughOn
theorem dX5_lasts_0 : decode cX5_lasts 0 = .ok (.aload_n 0, 1) := by decide +kernel
theorem dX5_lasts_1 : decode cX5_lasts 1 = .ok (.iload_n 1, 1) := by decide +kernel
theorem dX5_lasts_2 : decode cX5_lasts 2 = .ok (.invokevirtual 104, 3) := by decide +kernel
theorem dX5_lasts_5 : decode cX5_lasts 5 = .ok (.ifCond .ne 9, 3) := by decide +kernel
theorem dX5_lasts_8 : decode cX5_lasts 8 = .ok (.aload_n 0, 1) := by decide +kernel
theorem dX5_lasts_9 : decode cX5_lasts 9 = .ok (.iconst (-1), 1) := by decide +kernel
theorem dX5_lasts_10 : decode cX5_lasts 10 = .ok (.invokevirtual 35, 3) := by decide +kernel
theorem dX5_lasts_13 : decode cX5_lasts 13 = .ok (.ireturn, 1) := by decide +kernel
theorem dX5_lasts_14 : decode cX5_lasts 14 = .ok (.aload_n 0, 1) := by decide +kernel
theorem dX5_lasts_15 : decode cX5_lasts 15 = .ok (.getfield 9, 3) := by decide +kernel
theorem dX5_lasts_18 : decode cX5_lasts 18 = .ok (.aload_n 0, 1) := by decide +kernel
theorem dX5_lasts_19 : decode cX5_lasts 19 = .ok (.getfield 13, 3) := by decide +kernel
theorem dX5_lasts_22 : decode cX5_lasts 22 = .ok (.invokestatic 118, 3) := by decide +kernel
theorem dX5_lasts_25 : decode cX5_lasts 25 = .ok (.iconst 0, 1) := by decide +kernel
theorem dX5_lasts_26 : decode cX5_lasts 26 = .ok (.istore_n 2, 1) := by decide +kernel
theorem dX5_lasts_27 : decode cX5_lasts 27 = .ok (.iconst 1, 1) := by decide +kernel
theorem dX5_lasts_28 : decode cX5_lasts 28 = .ok (.istore_n 3, 1) := by decide +kernel
theorem dX5_lasts_29 : decode cX5_lasts 29 = .ok (.iload_n 3, 1) := by decide +kernel
theorem dX5_lasts_30 : decode cX5_lasts 30 = .ok (.bipush 99, 2) := by decide +kernel
theorem dX5_lasts_32 : decode cX5_lasts 32 = .ok (.if_icmp .gt 53, 3) := by decide +kernel
theorem dX5_lasts_35 : decode cX5_lasts 35 = .ok (.aload_n 0, 1) := by decide +kernel
theorem dX5_lasts_36 : decode cX5_lasts 36 = .ok (.getfield 13, 3) := by decide +kernel
theorem dX5_lasts_39 : decode cX5_lasts 39 = .ok (.aload_n 0, 1) := by decide +kernel
theorem dX5_lasts_40 : decode cX5_lasts 40 = .ok (.getfield 19, 3) := by decide +kernel
theorem dX5_lasts_43 : decode cX5_lasts 43 = .ok (.invokestatic 118, 3) := by decide +kernel
theorem dX5_lasts_46 : decode cX5_lasts 46 = .ok (.aload_n 0, 1) := by decide +kernel
theorem dX5_lasts_47 : decode cX5_lasts 47 = .ok (.getfield 13, 3) := by decide +kernel
theorem dX5_lasts_50 : decode cX5_lasts 50 = .ok (.invokestatic 69, 3) := by decide +kernel
theorem dX5_lasts_53 : decode cX5_lasts 53 = .ok (.aload_n 0, 1) := by decide +kernel
theorem dX5_lasts_54 : decode cX5_lasts 54 = .ok (.iload_n 1, 1) := by decide +kernel
theorem dX5_lasts_55 : decode cX5_lasts 55 = .ok (.invokevirtual 136, 3) := by decide +kernel
theorem dX5_lasts_58 : decode cX5_lasts 58 = .ok (.ifCond .eq 5, 3) := by decide +kernel
theorem dX5_lasts_61 : decode cX5_lasts 61 = .ok (.iload_n 2, 1) := by decide +kernel
theorem dX5_lasts_62 : decode cX5_lasts 62 = .ok (.ireturn, 1) := by decide +kernel
theorem dX5_lasts_63 : decode cX5_lasts 63 = .ok (.iload_n 2, 1) := by decide +kernel
theorem dX5_lasts_64 : decode cX5_lasts 64 = .ok (.aload_n 0, 1) := by decide +kernel
theorem dX5_lasts_65 : decode cX5_lasts 65 = .ok (.iload_n 1, 1) := by decide +kernel
theorem dX5_lasts_66 : decode cX5_lasts 66 = .ok (.invokevirtual 139, 3) := by decide +kernel
theorem dX5_lasts_69 : decode cX5_lasts 69 = .ok (.ifCond .eq 7, 3) := by decide +kernel
theorem dX5_lasts_72 : decode cX5_lasts 72 = .ok (.iconst 1, 1) := by decide +kernel
theorem dX5_lasts_73 : decode cX5_lasts 73 = .ok (.goto 4, 3) := by decide +kernel
theorem dX5_lasts_76 : decode cX5_lasts 76 = .ok (.iconst 0, 1) := by decide +kernel
theorem dX5_lasts_77 : decode cX5_lasts 77 = .ok (.iadd, 1) := by decide +kernel
theorem dX5_lasts_78 : decode cX5_lasts 78 = .ok (.istore_n 2, 1) := by decide +kernel
theorem dX5_lasts_79 : decode cX5_lasts 79 = .ok (.iinc 3 1, 3) := by decide +kernel
theorem dX5_lasts_82 : decode cX5_lasts 82 = .ok (.goto (-53), 3) := by decide +kernel
theorem dX5_lasts_85 : decode cX5_lasts 85 = .ok (.iload_n 2, 1) := by decide +kernel
theorem dX5_lasts_86 : decode cX5_lasts 86 = .ok (.ireturn, 1) := by decide +kernel
set_option maxRecDepth 20000 in
theorem ggX5_lacks_X5_lacksIn : GoodIn wsX5_lacks wsX5_lacksIn := goodIn_r _ [5, 6, 7, 4, 8, 9, 10, 11] (by decide +kernel) (by decide +kernel)
set_option maxRecDepth 20000 in
theorem gX5_lacks_X5_lacksIn : GoodIn wsX5_lacks (va_wsS RX5 125 yX5_lacksIn wsX5_lacksIn) := goodIn_app (goodIn_of _ (by decide +kernel)) ggX5_lacks_X5_lacksIn
theorem dX5_lacks_0 : decode cX5_lacks 0 = .ok (.iconst 0, 1) := by decide +kernel
theorem dX5_lacks_1 : decode cX5_lacks 1 = .ok (.istore_n 1, 1) := by decide +kernel
theorem dX5_lacks_2 : decode cX5_lacks 2 = .ok (.iconst 0, 1) := by decide +kernel
theorem dX5_lacks_3 : decode cX5_lacks 3 = .ok (.istore_n 2, 1) := by decide +kernel
theorem dX5_lacks_4 : decode cX5_lacks 4 = .ok (.iload_n 2, 1) := by decide +kernel
theorem dX5_lacks_5 : decode cX5_lacks 5 = .ok (.aload_n 0, 1) := by decide +kernel
theorem dX5_lacks_6 : decode cX5_lacks 6 = .ok (.getfield 9, 3) := by decide +kernel
theorem dX5_lacks_9 : decode cX5_lacks 9 = .ok (.iconst 0, 1) := by decide +kernel
theorem dX5_lacks_10 : decode cX5_lacks 10 = .ok (.iaload, 1) := by decide +kernel
theorem dX5_lacks_11 : decode cX5_lacks 11 = .ok (.if_icmp .ge 20, 3) := by decide +kernel
theorem dX5_lacks_14 : decode cX5_lacks 14 = .ok (.iload_n 1, 1) := by decide +kernel
theorem dX5_lacks_15 : decode cX5_lacks 15 = .ok (.aload_n 0, 1) := by decide +kernel
theorem dX5_lacks_16 : decode cX5_lacks 16 = .ok (.getfield 9, 3) := by decide +kernel
theorem dX5_lacks_19 : decode cX5_lacks 19 = .ok (.iload_n 2, 1) := by decide +kernel
theorem dX5_lacks_20 : decode cX5_lacks 20 = .ok (.invokestatic 125, 3) := by decide +kernel
theorem dX5_lacks_23 : decode cX5_lacks 23 = .ok (.iadd, 1) := by decide +kernel
theorem dX5_lacks_24 : decode cX5_lacks 24 = .ok (.istore_n 1, 1) := by decide +kernel
theorem dX5_lacks_25 : decode cX5_lacks 25 = .ok (.iinc 2 1, 3) := by decide +kernel
theorem dX5_lacks_28 : decode cX5_lacks 28 = .ok (.goto (-24), 3) := by decide +kernel
theorem dX5_lacks_31 : decode cX5_lacks 31 = .ok (.iload_n 1, 1) := by decide +kernel
theorem dX5_lacks_32 : decode cX5_lacks 32 = .ok (.ireturn, 1) := by decide +kernel
set_option maxRecDepth 20000 in
theorem ggX5_next_X5_isIn : GoodIn wsX5_next wsX5_isIn := goodIn_r _ [5] (by decide +kernel) (by decide +kernel)
set_option maxRecDepth 20000 in
theorem gX5_next_X5_isIn : GoodIn wsX5_next (va_wsS RX5 41 yX5_isIn wsX5_isIn) := goodIn_app (goodIn_of _ (by decide +kernel)) ggX5_next_X5_isIn
set_option maxRecDepth 20000 in
theorem ggX5_next_X5_no : GoodIn wsX5_next wsX5_no := goodIn_r _ [9, 10, 14, 15, 16, 17, 18, 19, 20, 21, 22, 23, 24, 25, 26] (by decide +kernel) (by decide +kernel)
set_option maxRecDepth 20000 in
theorem gX5_next_X5_no : GoodIn wsX5_next (wsV RX5 35 RX5 yX5_no wsX5_no) := goodIn_app (goodIn_of _ (by decide +kernel)) ggX5_next_X5_no
set_option maxRecDepth 20000 in
theorem ggX5_next_X5_of : GoodIn wsX5_next wsX5_of := goodIn_r _ [13] (by decide +kernel) (by decide +kernel)
set_option maxRecDepth 20000 in
theorem gX5_next_X5_of : GoodIn wsX5_next (va_wsS RX5 45 yX5_of wsX5_of) := goodIn_app (goodIn_of _ (by decide +kernel)) ggX5_next_X5_of
theorem dX5_next_0 : decode cX5_next 0 = .ok (.iload_n 1, 1) := by decide +kernel
theorem dX5_next_1 : decode cX5_next 1 = .ok (.iconst 0, 1) := by decide +kernel
theorem dX5_next_2 : decode cX5_next 2 = .ok (.iconst 1, 1) := by decide +kernel
theorem dX5_next_3 : decode cX5_next 3 = .ok (.invokestatic 41, 3) := by decide +kernel
theorem dX5_next_6 : decode cX5_next 6 = .ok (.ifCond .ne 10, 3) := by decide +kernel
theorem dX5_next_9 : decode cX5_next 9 = .ok (.aload_n 0, 1) := by decide +kernel
theorem dX5_next_10 : decode cX5_next 10 = .ok (.bipush (-2), 2) := by decide +kernel
theorem dX5_next_12 : decode cX5_next 12 = .ok (.invokevirtual 35, 3) := by decide +kernel
theorem dX5_next_15 : decode cX5_next 15 = .ok (.ireturn, 1) := by decide +kernel
theorem dX5_next_16 : decode cX5_next 16 = .ok (.bipush (-9), 2) := by decide +kernel
theorem dX5_next_18 : decode cX5_next 18 = .ok (.istore_n 2, 1) := by decide +kernel
theorem dX5_next_19 : decode cX5_next 19 = .ok (.iconst 0, 1) := by decide +kernel
theorem dX5_next_20 : decode cX5_next 20 = .ok (.istore_n 3, 1) := by decide +kernel
theorem dX5_next_21 : decode cX5_next 21 = .ok (.iload_n 3, 1) := by decide +kernel
theorem dX5_next_22 : decode cX5_next 22 = .ok (.aload_n 0, 1) := by decide +kernel
theorem dX5_next_23 : decode cX5_next 23 = .ok (.getfield 9, 3) := by decide +kernel
theorem dX5_next_26 : decode cX5_next 26 = .ok (.iconst 0, 1) := by decide +kernel
theorem dX5_next_27 : decode cX5_next 27 = .ok (.iaload, 1) := by decide +kernel
theorem dX5_next_28 : decode cX5_next 28 = .ok (.if_icmp .ge 51, 3) := by decide +kernel
theorem dX5_next_31 : decode cX5_next 31 = .ok (.aload_n 0, 1) := by decide +kernel
theorem dX5_next_32 : decode cX5_next 32 = .ok (.getfield 9, 3) := by decide +kernel
theorem dX5_next_35 : decode cX5_next 35 = .ok (.iload_n 3, 1) := by decide +kernel
theorem dX5_next_36 : decode cX5_next 36 = .ok (.iconst 3, 1) := by decide +kernel
theorem dX5_next_37 : decode cX5_next 37 = .ok (.invokestatic 45, 3) := by decide +kernel
theorem dX5_next_40 : decode cX5_next 40 = .ok (.iaload, 1) := by decide +kernel
theorem dX5_next_41 : decode cX5_next 41 = .ok (.ifCond .le 32, 3) := by decide +kernel
theorem dX5_next_44 : decode cX5_next 44 = .ok (.iload_n 2, 1) := by decide +kernel
theorem dX5_next_45 : decode cX5_next 45 = .ok (.ifCond .lt 26, 3) := by decide +kernel
theorem dX5_next_48 : decode cX5_next 48 = .ok (.aload_n 0, 1) := by decide +kernel
theorem dX5_next_49 : decode cX5_next 49 = .ok (.getfield 9, 3) := by decide +kernel
theorem dX5_next_52 : decode cX5_next 52 = .ok (.iload_n 3, 1) := by decide +kernel
theorem dX5_next_53 : decode cX5_next 53 = .ok (.iconst 3, 1) := by decide +kernel
theorem dX5_next_54 : decode cX5_next 54 = .ok (.invokestatic 45, 3) := by decide +kernel
theorem dX5_next_57 : decode cX5_next 57 = .ok (.iaload, 1) := by decide +kernel
theorem dX5_next_58 : decode cX5_next 58 = .ok (.aload_n 0, 1) := by decide +kernel
theorem dX5_next_59 : decode cX5_next 59 = .ok (.getfield 9, 3) := by decide +kernel
theorem dX5_next_62 : decode cX5_next 62 = .ok (.iload_n 2, 1) := by decide +kernel
theorem dX5_next_63 : decode cX5_next 63 = .ok (.iconst 3, 1) := by decide +kernel
theorem dX5_next_64 : decode cX5_next 64 = .ok (.invokestatic 45, 3) := by decide +kernel
theorem dX5_next_67 : decode cX5_next 67 = .ok (.iaload, 1) := by decide +kernel
theorem dX5_next_68 : decode cX5_next 68 = .ok (.if_icmp .ge 5, 3) := by decide +kernel
theorem dX5_next_71 : decode cX5_next 71 = .ok (.iload_n 3, 1) := by decide +kernel
theorem dX5_next_72 : decode cX5_next 72 = .ok (.istore_n 2, 1) := by decide +kernel
theorem dX5_next_73 : decode cX5_next 73 = .ok (.iinc 3 1, 3) := by decide +kernel
theorem dX5_next_76 : decode cX5_next 76 = .ok (.goto (-55), 3) := by decide +kernel
theorem dX5_next_79 : decode cX5_next 79 = .ok (.iload_n 2, 1) := by decide +kernel
theorem dX5_next_80 : decode cX5_next 80 = .ok (.ifCond .lt 7, 3) := by decide +kernel
theorem dX5_next_83 : decode cX5_next 83 = .ok (.iload_n 1, 1) := by decide +kernel
theorem dX5_next_84 : decode cX5_next 84 = .ok (.ifCond .ne 7, 3) := by decide +kernel
theorem dX5_next_87 : decode cX5_next 87 = .ok (.iload_n 2, 1) := by decide +kernel
theorem dX5_next_88 : decode cX5_next 88 = .ok (.goto 13, 3) := by decide +kernel
theorem dX5_next_91 : decode cX5_next 91 = .ok (.aload_n 0, 1) := by decide +kernel
theorem dX5_next_92 : decode cX5_next 92 = .ok (.getfield 9, 3) := by decide +kernel
theorem dX5_next_95 : decode cX5_next 95 = .ok (.iload_n 2, 1) := by decide +kernel
theorem dX5_next_96 : decode cX5_next 96 = .ok (.iconst 3, 1) := by decide +kernel
theorem dX5_next_97 : decode cX5_next 97 = .ok (.invokestatic 45, 3) := by decide +kernel
theorem dX5_next_100 : decode cX5_next 100 = .ok (.iaload, 1) := by decide +kernel
theorem dX5_next_101 : decode cX5_next 101 = .ok (.ireturn, 1) := by decide +kernel
set_option maxRecDepth 20000 in
theorem ggX5_isShortWithin_X5_copies : GoodIn wsX5_isShortWithin wsX5_copies := goodIn_r _ [6] (by decide +kernel) (by decide +kernel)
set_option maxRecDepth 20000 in
theorem gX5_isShortWithin_X5_copies : GoodIn wsX5_isShortWithin (va_wsS RX5 118 yX5_copies wsX5_copies) := goodIn_app (goodIn_of _ (by decide +kernel)) ggX5_isShortWithin_X5_copies
set_option maxRecDepth 20000 in
theorem ggX5_isShortWithin_X5_day : GoodIn wsX5_isShortWithin wsX5_day := goodIn_r _ [9, 10, 11, 5, 12, 13, 14, 15, 16, 17, 18, 19, 20, 21, 22, 23, 24, 25, 26, 27, 28, 29, 30] (by decide +kernel) (by decide +kernel)
set_option maxRecDepth 20000 in
theorem gX5_isShortWithin_X5_day : GoodIn wsX5_isShortWithin (va_wsS RX5 69 yX5_day wsX5_day) := goodIn_app (goodIn_of _ (by decide +kernel)) ggX5_isShortWithin_X5_day
set_option maxRecDepth 20000 in
theorem ggX5_isShortWithin_X5_isShortOn : GoodIn wsX5_isShortWithin wsX5_isShortOn := goodIn_r _ [34, 2, 10, 11, 5, 12, 16, 17, 18, 35, 36, 37, 38, 39, 40, 41, 42, 43, 44, 45, 46, 47] (by decide +kernel) (by decide +kernel)
set_option maxRecDepth 20000 in
theorem gX5_isShortWithin_X5_isShortOn : GoodIn wsX5_isShortWithin (wsV RX5 136 RX5 yX5_isShortOn wsX5_isShortOn) := goodIn_app (goodIn_of _ (by decide +kernel)) ggX5_isShortWithin_X5_isShortOn
theorem dX5_isShortWithin_0 : decode cX5_isShortWithin 0 = .ok (.iconst 0, 1) := by decide +kernel
theorem dX5_isShortWithin_1 : decode cX5_isShortWithin 1 = .ok (.istore_n 3, 1) := by decide +kernel
theorem dX5_isShortWithin_2 : decode cX5_isShortWithin 2 = .ok (.iload_n 3, 1) := by decide +kernel
theorem dX5_isShortWithin_3 : decode cX5_isShortWithin 3 = .ok (.iload_n 2, 1) := by decide +kernel
theorem dX5_isShortWithin_4 : decode cX5_isShortWithin 4 = .ok (.if_icmp .ge 37, 3) := by decide +kernel
theorem dX5_isShortWithin_7 : decode cX5_isShortWithin 7 = .ok (.aload_n 0, 1) := by decide +kernel
theorem dX5_isShortWithin_8 : decode cX5_isShortWithin 8 = .ok (.getfield 13, 3) := by decide +kernel
theorem dX5_isShortWithin_11 : decode cX5_isShortWithin 11 = .ok (.aload_n 0, 1) := by decide +kernel
theorem dX5_isShortWithin_12 : decode cX5_isShortWithin 12 = .ok (.getfield 19, 3) := by decide +kernel
theorem dX5_isShortWithin_15 : decode cX5_isShortWithin 15 = .ok (.invokestatic 118, 3) := by decide +kernel
theorem dX5_isShortWithin_18 : decode cX5_isShortWithin 18 = .ok (.aload_n 0, 1) := by decide +kernel
theorem dX5_isShortWithin_19 : decode cX5_isShortWithin 19 = .ok (.getfield 13, 3) := by decide +kernel
theorem dX5_isShortWithin_22 : decode cX5_isShortWithin 22 = .ok (.invokestatic 69, 3) := by decide +kernel
theorem dX5_isShortWithin_25 : decode cX5_isShortWithin 25 = .ok (.aload_n 0, 1) := by decide +kernel
theorem dX5_isShortWithin_26 : decode cX5_isShortWithin 26 = .ok (.iload_n 1, 1) := by decide +kernel
theorem dX5_isShortWithin_27 : decode cX5_isShortWithin 27 = .ok (.invokevirtual 136, 3) := by decide +kernel
theorem dX5_isShortWithin_30 : decode cX5_isShortWithin 30 = .ok (.ifCond .eq 5, 3) := by decide +kernel
theorem dX5_isShortWithin_33 : decode cX5_isShortWithin 33 = .ok (.iconst 1, 1) := by decide +kernel
theorem dX5_isShortWithin_34 : decode cX5_isShortWithin 34 = .ok (.ireturn, 1) := by decide +kernel
theorem dX5_isShortWithin_35 : decode cX5_isShortWithin 35 = .ok (.iinc 3 1, 3) := by decide +kernel
theorem dX5_isShortWithin_38 : decode cX5_isShortWithin 38 = .ok (.goto (-36), 3) := by decide +kernel
theorem dX5_isShortWithin_41 : decode cX5_isShortWithin 41 = .ok (.iconst 0, 1) := by decide +kernel
theorem dX5_isShortWithin_42 : decode cX5_isShortWithin 42 = .ok (.ireturn, 1) := by decide +kernel
set_option maxRecDepth 20000 in
theorem ggX5_enough_X5_isOne : GoodIn wsX5_enough wsX5_isOne := goodIn_r _ [7, 1, 8, 9, 6, 10, 55, 56, 57, 58, 59, 60, 61, 62, 63, 64, 65, 66, 67] (by decide +kernel) (by decide +kernel)
set_option maxRecDepth 20000 in
theorem gX5_enough_X5_isOne : GoodIn wsX5_enough (wsV RX5 104 RX5 yX5_isOne wsX5_isOne) := goodIn_app (goodIn_of _ (by decide +kernel)) ggX5_enough_X5_isOne
set_option maxRecDepth 20000 in
theorem ggX5_enough_X5_wrongBy : GoodIn wsX5_enough wsX5_wrongBy := goodIn_r _ [13] (by decide +kernel) (by decide +kernel)
set_option maxRecDepth 20000 in
theorem gX5_enough_X5_wrongBy : GoodIn wsX5_enough (va_wsS RX5 128 yX5_wrongBy wsX5_wrongBy) := goodIn_app (goodIn_of _ (by decide +kernel)) ggX5_enough_X5_wrongBy
set_option maxRecDepth 20000 in
theorem ggX5_enough_X5_no : GoodIn wsX5_enough wsX5_no := goodIn_r _ [17, 18, 55, 56, 57, 58, 59, 60, 61, 62, 63, 64, 65, 66, 67] (by decide +kernel) (by decide +kernel)
set_option maxRecDepth 20000 in
theorem gX5_enough_X5_no : GoodIn wsX5_enough (wsV RX5 35 RX5 yX5_no wsX5_no) := goodIn_app (goodIn_of _ (by decide +kernel)) ggX5_enough_X5_no
set_option maxRecDepth 20000 in
theorem ggX5_enough_X5_copies : GoodIn wsX5_enough wsX5_copies := goodIn_r _ [21] (by decide +kernel) (by decide +kernel)
set_option maxRecDepth 20000 in
theorem gX5_enough_X5_copies : GoodIn wsX5_enough (va_wsS RX5 118 yX5_copies wsX5_copies) := goodIn_app (goodIn_of _ (by decide +kernel)) ggX5_enough_X5_copies
set_option maxRecDepth 20000 in
theorem ggX5_enough_X5_of : GoodIn wsX5_enough wsX5_of := goodIn_r _ [24] (by decide +kernel) (by decide +kernel)
set_option maxRecDepth 20000 in
theorem gX5_enough_X5_of : GoodIn wsX5_enough (va_wsS RX5 45 yX5_of wsX5_of) := goodIn_app (goodIn_of _ (by decide +kernel)) ggX5_enough_X5_of
set_option maxRecDepth 20000 in
theorem ggX5_enough_X5_isShortWithin : GoodIn wsX5_enough wsX5_isShortWithin := goodIn_r _ [28, 2, 29, 19, 20, 6, 21, 30, 31, 32, 22, 23, 24, 33, 34, 35, 36, 37, 38, 39, 40, 41, 42, 43, 44, 45, 46, 47, 48, 49, 50, 51, 52, 53, 54, 55, 56, 57, 58, 59, 60, 61, 62, 63, 64, 65, 66, 67] (by decide +kernel) (by decide +kernel)
set_option maxRecDepth 20000 in
theorem gX5_enough_X5_isShortWithin : GoodIn wsX5_enough (wsV RX5 142 RX5 yX5_isShortWithin wsX5_isShortWithin) := goodIn_app (goodIn_of _ (by decide +kernel)) ggX5_enough_X5_isShortWithin
theorem dX5_enough_0 : decode cX5_enough 0 = .ok (.aload_n 0, 1) := by decide +kernel
theorem dX5_enough_1 : decode cX5_enough 1 = .ok (.iload_n 1, 1) := by decide +kernel
theorem dX5_enough_2 : decode cX5_enough 2 = .ok (.invokevirtual 104, 3) := by decide +kernel
theorem dX5_enough_5 : decode cX5_enough 5 = .ok (.ifCond .eq 13, 3) := by decide +kernel
theorem dX5_enough_8 : decode cX5_enough 8 = .ok (.iload_n 2, 1) := by decide +kernel
theorem dX5_enough_9 : decode cX5_enough 9 = .ok (.iconst 1, 1) := by decide +kernel
theorem dX5_enough_10 : decode cX5_enough 10 = .ok (.bipush 60, 2) := by decide +kernel
theorem dX5_enough_12 : decode cX5_enough 12 = .ok (.invokestatic 128, 3) := by decide +kernel
theorem dX5_enough_15 : decode cX5_enough 15 = .ok (.goto 4, 3) := by decide +kernel
theorem dX5_enough_18 : decode cX5_enough 18 = .ok (.iconst (-1), 1) := by decide +kernel
theorem dX5_enough_19 : decode cX5_enough 19 = .ok (.istore_n 3, 1) := by decide +kernel
theorem dX5_enough_20 : decode cX5_enough 20 = .ok (.iload_n 3, 1) := by decide +kernel
theorem dX5_enough_21 : decode cX5_enough 21 = .ok (.ifCond .eq 9, 3) := by decide +kernel
theorem dX5_enough_24 : decode cX5_enough 24 = .ok (.aload_n 0, 1) := by decide +kernel
theorem dX5_enough_25 : decode cX5_enough 25 = .ok (.iload_n 3, 1) := by decide +kernel
theorem dX5_enough_26 : decode cX5_enough 26 = .ok (.invokevirtual 35, 3) := by decide +kernel
theorem dX5_enough_29 : decode cX5_enough 29 = .ok (.ireturn, 1) := by decide +kernel
theorem dX5_enough_30 : decode cX5_enough 30 = .ok (.iconst 0, 1) := by decide +kernel
theorem dX5_enough_31 : decode cX5_enough 31 = .ok (.istore 4, 2) := by decide +kernel
theorem dX5_enough_33 : decode cX5_enough 33 = .ok (.iload 4, 2) := by decide +kernel
theorem dX5_enough_35 : decode cX5_enough 35 = .ok (.bipush 100, 2) := by decide +kernel
theorem dX5_enough_37 : decode cX5_enough 37 = .ok (.if_icmp .ge 44, 3) := by decide +kernel
theorem dX5_enough_40 : decode cX5_enough 40 = .ok (.aload_n 0, 1) := by decide +kernel
theorem dX5_enough_41 : decode cX5_enough 41 = .ok (.getfield 9, 3) := by decide +kernel
theorem dX5_enough_44 : decode cX5_enough 44 = .ok (.aload_n 0, 1) := by decide +kernel
theorem dX5_enough_45 : decode cX5_enough 45 = .ok (.getfield 13, 3) := by decide +kernel
theorem dX5_enough_48 : decode cX5_enough 48 = .ok (.invokestatic 118, 3) := by decide +kernel
theorem dX5_enough_51 : decode cX5_enough 51 = .ok (.aload_n 0, 1) := by decide +kernel
theorem dX5_enough_52 : decode cX5_enough 52 = .ok (.getfield 13, 3) := by decide +kernel
theorem dX5_enough_55 : decode cX5_enough 55 = .ok (.iload_n 1, 1) := by decide +kernel
theorem dX5_enough_56 : decode cX5_enough 56 = .ok (.iconst 2, 1) := by decide +kernel
theorem dX5_enough_57 : decode cX5_enough 57 = .ok (.invokestatic 45, 3) := by decide +kernel
theorem dX5_enough_60 : decode cX5_enough 60 = .ok (.iload 4, 2) := by decide +kernel
theorem dX5_enough_62 : decode cX5_enough 62 = .ok (.iastore, 1) := by decide +kernel
theorem dX5_enough_63 : decode cX5_enough 63 = .ok (.aload_n 0, 1) := by decide +kernel
theorem dX5_enough_64 : decode cX5_enough 64 = .ok (.iload_n 1, 1) := by decide +kernel
theorem dX5_enough_65 : decode cX5_enough 65 = .ok (.iload_n 2, 1) := by decide +kernel
theorem dX5_enough_66 : decode cX5_enough 66 = .ok (.invokevirtual 142, 3) := by decide +kernel
theorem dX5_enough_69 : decode cX5_enough 69 = .ok (.ifCond .ne 6, 3) := by decide +kernel
theorem dX5_enough_72 : decode cX5_enough 72 = .ok (.iload 4, 2) := by decide +kernel
theorem dX5_enough_74 : decode cX5_enough 74 = .ok (.ireturn, 1) := by decide +kernel
theorem dX5_enough_75 : decode cX5_enough 75 = .ok (.iinc 4 1, 3) := by decide +kernel
theorem dX5_enough_78 : decode cX5_enough 78 = .ok (.goto (-45), 3) := by decide +kernel
theorem dX5_enough_81 : decode cX5_enough 81 = .ok (.bipush (-9), 2) := by decide +kernel
theorem dX5_enough_83 : decode cX5_enough 83 = .ok (.ireturn, 1) := by decide +kernel
set_option maxRecDepth 20000 in
theorem ggX5_lacksOf_X5_has : GoodIn wsX5_lacksOf wsX5_has := goodIn_r _ [5] (by decide +kernel) (by decide +kernel)
set_option maxRecDepth 20000 in
theorem gX5_lacksOf_X5_has : GoodIn wsX5_lacksOf (va_wsS RX5 145 yX5_has wsX5_has) := goodIn_app (goodIn_of _ (by decide +kernel)) ggX5_lacksOf_X5_has
set_option maxRecDepth 20000 in
theorem ggX5_lacksOf_X5_lacksIn : GoodIn wsX5_lacksOf wsX5_lacksIn := goodIn_r _ [8, 9, 10, 4, 11, 12, 13, 14] (by decide +kernel) (by decide +kernel)
set_option maxRecDepth 20000 in
theorem gX5_lacksOf_X5_lacksIn : GoodIn wsX5_lacksOf (va_wsS RX5 125 yX5_lacksIn wsX5_lacksIn) := goodIn_app (goodIn_of _ (by decide +kernel)) ggX5_lacksOf_X5_lacksIn
theorem dX5_lacksOf_0 : decode cX5_lacksOf 0 = .ok (.iconst 0, 1) := by decide +kernel
theorem dX5_lacksOf_1 : decode cX5_lacksOf 1 = .ok (.istore_n 2, 1) := by decide +kernel
theorem dX5_lacksOf_2 : decode cX5_lacksOf 2 = .ok (.iconst 0, 1) := by decide +kernel
theorem dX5_lacksOf_3 : decode cX5_lacksOf 3 = .ok (.istore_n 3, 1) := by decide +kernel
theorem dX5_lacksOf_4 : decode cX5_lacksOf 4 = .ok (.iload_n 3, 1) := by decide +kernel
theorem dX5_lacksOf_5 : decode cX5_lacksOf 5 = .ok (.aload_n 0, 1) := by decide +kernel
theorem dX5_lacksOf_6 : decode cX5_lacksOf 6 = .ok (.getfield 9, 3) := by decide +kernel
theorem dX5_lacksOf_9 : decode cX5_lacksOf 9 = .ok (.iconst 0, 1) := by decide +kernel
theorem dX5_lacksOf_10 : decode cX5_lacksOf 10 = .ok (.iaload, 1) := by decide +kernel
theorem dX5_lacksOf_11 : decode cX5_lacksOf 11 = .ok (.if_icmp .ge 32, 3) := by decide +kernel
theorem dX5_lacksOf_14 : decode cX5_lacksOf 14 = .ok (.iload_n 2, 1) := by decide +kernel
theorem dX5_lacksOf_15 : decode cX5_lacksOf 15 = .ok (.iload_n 1, 1) := by decide +kernel
theorem dX5_lacksOf_16 : decode cX5_lacksOf 16 = .ok (.iload_n 3, 1) := by decide +kernel
theorem dX5_lacksOf_17 : decode cX5_lacksOf 17 = .ok (.invokestatic 145, 3) := by decide +kernel
theorem dX5_lacksOf_20 : decode cX5_lacksOf 20 = .ok (.ifCond .eq 14, 3) := by decide +kernel
theorem dX5_lacksOf_23 : decode cX5_lacksOf 23 = .ok (.aload_n 0, 1) := by decide +kernel
theorem dX5_lacksOf_24 : decode cX5_lacksOf 24 = .ok (.getfield 9, 3) := by decide +kernel
theorem dX5_lacksOf_27 : decode cX5_lacksOf 27 = .ok (.iload_n 3, 1) := by decide +kernel
theorem dX5_lacksOf_28 : decode cX5_lacksOf 28 = .ok (.invokestatic 125, 3) := by decide +kernel
theorem dX5_lacksOf_31 : decode cX5_lacksOf 31 = .ok (.goto 4, 3) := by decide +kernel
theorem dX5_lacksOf_34 : decode cX5_lacksOf 34 = .ok (.iconst 0, 1) := by decide +kernel
theorem dX5_lacksOf_35 : decode cX5_lacksOf 35 = .ok (.iadd, 1) := by decide +kernel
theorem dX5_lacksOf_36 : decode cX5_lacksOf 36 = .ok (.istore_n 2, 1) := by decide +kernel
theorem dX5_lacksOf_37 : decode cX5_lacksOf 37 = .ok (.iinc 3 1, 3) := by decide +kernel
theorem dX5_lacksOf_40 : decode cX5_lacksOf 40 = .ok (.goto (-36), 3) := by decide +kernel
theorem dX5_lacksOf_43 : decode cX5_lacksOf 43 = .ok (.iload_n 2, 1) := by decide +kernel
theorem dX5_lacksOf_44 : decode cX5_lacksOf 44 = .ok (.ireturn, 1) := by decide +kernel
set_option maxRecDepth 20000 in
theorem ggX5_lacking_X5_lacksIn : GoodIn wsX5_lacking wsX5_lacksIn := goodIn_r _ [5, 6, 7, 4, 8, 9, 10, 11] (by decide +kernel) (by decide +kernel)
set_option maxRecDepth 20000 in
theorem gX5_lacking_X5_lacksIn : GoodIn wsX5_lacking (va_wsS RX5 125 yX5_lacksIn wsX5_lacksIn) := goodIn_app (goodIn_of _ (by decide +kernel)) ggX5_lacking_X5_lacksIn
theorem dX5_lacking_0 : decode cX5_lacking 0 = .ok (.iconst 0, 1) := by decide +kernel
theorem dX5_lacking_1 : decode cX5_lacking 1 = .ok (.istore_n 1, 1) := by decide +kernel
theorem dX5_lacking_2 : decode cX5_lacking 2 = .ok (.iconst 0, 1) := by decide +kernel
theorem dX5_lacking_3 : decode cX5_lacking 3 = .ok (.istore_n 2, 1) := by decide +kernel
theorem dX5_lacking_4 : decode cX5_lacking 4 = .ok (.iload_n 2, 1) := by decide +kernel
theorem dX5_lacking_5 : decode cX5_lacking 5 = .ok (.aload_n 0, 1) := by decide +kernel
theorem dX5_lacking_6 : decode cX5_lacking 6 = .ok (.getfield 9, 3) := by decide +kernel
theorem dX5_lacking_9 : decode cX5_lacking 9 = .ok (.iconst 0, 1) := by decide +kernel
theorem dX5_lacking_10 : decode cX5_lacking 10 = .ok (.iaload, 1) := by decide +kernel
theorem dX5_lacking_11 : decode cX5_lacking 11 = .ok (.if_icmp .ge 30, 3) := by decide +kernel
theorem dX5_lacking_14 : decode cX5_lacking 14 = .ok (.iload_n 1, 1) := by decide +kernel
theorem dX5_lacking_15 : decode cX5_lacking 15 = .ok (.aload_n 0, 1) := by decide +kernel
theorem dX5_lacking_16 : decode cX5_lacking 16 = .ok (.getfield 9, 3) := by decide +kernel
theorem dX5_lacking_19 : decode cX5_lacking 19 = .ok (.iload_n 2, 1) := by decide +kernel
theorem dX5_lacking_20 : decode cX5_lacking 20 = .ok (.invokestatic 125, 3) := by decide +kernel
theorem dX5_lacking_23 : decode cX5_lacking 23 = .ok (.ifCond .le 9, 3) := by decide +kernel
theorem dX5_lacking_26 : decode cX5_lacking 26 = .ok (.iconst 1, 1) := by decide +kernel
theorem dX5_lacking_27 : decode cX5_lacking 27 = .ok (.iload_n 2, 1) := by decide +kernel
theorem dX5_lacking_28 : decode cX5_lacking 28 = .ok (.ishl, 1) := by decide +kernel
theorem dX5_lacking_29 : decode cX5_lacking 29 = .ok (.goto 4, 3) := by decide +kernel
theorem dX5_lacking_32 : decode cX5_lacking 32 = .ok (.iconst 0, 1) := by decide +kernel
theorem dX5_lacking_33 : decode cX5_lacking 33 = .ok (.ior, 1) := by decide +kernel
theorem dX5_lacking_34 : decode cX5_lacking 34 = .ok (.istore_n 1, 1) := by decide +kernel
theorem dX5_lacking_35 : decode cX5_lacking 35 = .ok (.iinc 2 1, 3) := by decide +kernel
theorem dX5_lacking_38 : decode cX5_lacking 38 = .ok (.goto (-34), 3) := by decide +kernel
theorem dX5_lacking_41 : decode cX5_lacking 41 = .ok (.iload_n 1, 1) := by decide +kernel
theorem dX5_lacking_42 : decode cX5_lacking 42 = .ok (.ireturn, 1) := by decide +kernel
set_option maxRecDepth 20000 in
theorem ggX5_serve_X5_isIn : GoodIn wsX5_serve wsX5_isIn := goodIn_r _ [5] (by decide +kernel) (by decide +kernel)
set_option maxRecDepth 20000 in
theorem gX5_serve_X5_isIn : GoodIn wsX5_serve (va_wsS RX5 41 yX5_isIn wsX5_isIn) := goodIn_app (goodIn_of _ (by decide +kernel)) ggX5_serve_X5_isIn
set_option maxRecDepth 20000 in
theorem ggX5_serve_X5_no : GoodIn wsX5_serve wsX5_no := goodIn_r _ [9, 10, 34, 35, 36, 37, 38, 39, 40, 41, 42, 43, 44, 45, 46] (by decide +kernel) (by decide +kernel)
set_option maxRecDepth 20000 in
theorem gX5_serve_X5_no : GoodIn wsX5_serve (wsV RX5 35 RX5 yX5_no wsX5_no) := goodIn_app (goodIn_of _ (by decide +kernel)) ggX5_serve_X5_no
set_option maxRecDepth 20000 in
theorem ggX5_serve_X5_lacking : GoodIn wsX5_serve wsX5_lacking := goodIn_r _ [14, 1, 15, 16, 4, 17, 18, 19, 20, 21, 22, 23, 34, 35, 36, 37, 38, 39, 40, 41, 42, 43, 44, 45, 46] (by decide +kernel) (by decide +kernel)
set_option maxRecDepth 20000 in
theorem gX5_serve_X5_lacking : GoodIn wsX5_serve (wsV RX5 148 RX5 yX5_lacking wsX5_lacking) := goodIn_app (goodIn_of _ (by decide +kernel)) ggX5_serve_X5_lacking
set_option maxRecDepth 20000 in
theorem ggX5_serve_X5_bits : GoodIn wsX5_serve wsX5_bits := goodIn_r _ [26] (by decide +kernel) (by decide +kernel)
set_option maxRecDepth 20000 in
theorem gX5_serve_X5_bits : GoodIn wsX5_serve (va_wsS RX5 151 yX5_bits wsX5_bits) := goodIn_app (goodIn_of _ (by decide +kernel)) ggX5_serve_X5_bits
set_option maxRecDepth 20000 in
theorem ggX5_serve_X5_lacksOf : GoodIn wsX5_serve wsX5_lacksOf := goodIn_r _ [30, 1, 31, 32, 4, 33, 15, 16, 17, 18, 19, 20, 21, 22, 23, 34, 35, 36, 37, 38, 39, 40, 41, 42, 43, 44, 45, 46] (by decide +kernel) (by decide +kernel)
set_option maxRecDepth 20000 in
theorem gX5_serve_X5_lacksOf : GoodIn wsX5_serve (wsV RX5 154 RX5 yX5_lacksOf wsX5_lacksOf) := goodIn_app (goodIn_of _ (by decide +kernel)) ggX5_serve_X5_lacksOf
theorem dX5_serve_0 : decode cX5_serve 0 = .ok (.iload_n 1, 1) := by decide +kernel
theorem dX5_serve_1 : decode cX5_serve 1 = .ok (.iconst 0, 1) := by decide +kernel
theorem dX5_serve_2 : decode cX5_serve 2 = .ok (.iconst 2, 1) := by decide +kernel
theorem dX5_serve_3 : decode cX5_serve 3 = .ok (.invokestatic 41, 3) := by decide +kernel
theorem dX5_serve_6 : decode cX5_serve 6 = .ok (.ifCond .ne 10, 3) := by decide +kernel
theorem dX5_serve_9 : decode cX5_serve 9 = .ok (.aload_n 0, 1) := by decide +kernel
theorem dX5_serve_10 : decode cX5_serve 10 = .ok (.bipush (-2), 2) := by decide +kernel
theorem dX5_serve_12 : decode cX5_serve 12 = .ok (.invokevirtual 35, 3) := by decide +kernel
theorem dX5_serve_15 : decode cX5_serve 15 = .ok (.ireturn, 1) := by decide +kernel
theorem dX5_serve_16 : decode cX5_serve 16 = .ok (.aload_n 0, 1) := by decide +kernel
theorem dX5_serve_17 : decode cX5_serve 17 = .ok (.invokevirtual 148, 3) := by decide +kernel
theorem dX5_serve_20 : decode cX5_serve 20 = .ok (.istore_n 2, 1) := by decide +kernel
theorem dX5_serve_21 : decode cX5_serve 21 = .ok (.iconst 0, 1) := by decide +kernel
theorem dX5_serve_22 : decode cX5_serve 22 = .ok (.istore_n 3, 1) := by decide +kernel
theorem dX5_serve_23 : decode cX5_serve 23 = .ok (.iconst 0, 1) := by decide +kernel
theorem dX5_serve_24 : decode cX5_serve 24 = .ok (.istore 4, 2) := by decide +kernel
theorem dX5_serve_26 : decode cX5_serve 26 = .ok (.iload 4, 2) := by decide +kernel
theorem dX5_serve_28 : decode cX5_serve 28 = .ok (.iload_n 2, 1) := by decide +kernel
theorem dX5_serve_29 : decode cX5_serve 29 = .ok (.if_icmp .gt 48, 3) := by decide +kernel
theorem dX5_serve_32 : decode cX5_serve 32 = .ok (.iload 4, 2) := by decide +kernel
theorem dX5_serve_34 : decode cX5_serve 34 = .ok (.iload_n 2, 1) := by decide +kernel
theorem dX5_serve_35 : decode cX5_serve 35 = .ok (.iconst (-1), 1) := by decide +kernel
theorem dX5_serve_36 : decode cX5_serve 36 = .ok (.ixor, 1) := by decide +kernel
theorem dX5_serve_37 : decode cX5_serve 37 = .ok (.iand, 1) := by decide +kernel
theorem dX5_serve_38 : decode cX5_serve 38 = .ok (.ifCond .ne 33, 3) := by decide +kernel
theorem dX5_serve_41 : decode cX5_serve 41 = .ok (.iload 4, 2) := by decide +kernel
theorem dX5_serve_43 : decode cX5_serve 43 = .ok (.invokestatic 151, 3) := by decide +kernel
theorem dX5_serve_46 : decode cX5_serve 46 = .ok (.iload_n 3, 1) := by decide +kernel
theorem dX5_serve_47 : decode cX5_serve 47 = .ok (.invokestatic 151, 3) := by decide +kernel
theorem dX5_serve_50 : decode cX5_serve 50 = .ok (.if_icmp .le 21, 3) := by decide +kernel
theorem dX5_serve_53 : decode cX5_serve 53 = .ok (.aload_n 0, 1) := by decide +kernel
theorem dX5_serve_54 : decode cX5_serve 54 = .ok (.iload 4, 2) := by decide +kernel
theorem dX5_serve_56 : decode cX5_serve 56 = .ok (.invokevirtual 154, 3) := by decide +kernel
theorem dX5_serve_59 : decode cX5_serve 59 = .ok (.aload_n 0, 1) := by decide +kernel
theorem dX5_serve_60 : decode cX5_serve 60 = .ok (.getfield 9, 3) := by decide +kernel
theorem dX5_serve_63 : decode cX5_serve 63 = .ok (.iconst 2, 1) := by decide +kernel
theorem dX5_serve_64 : decode cX5_serve 64 = .ok (.iaload, 1) := by decide +kernel
theorem dX5_serve_65 : decode cX5_serve 65 = .ok (.if_icmp .gt 6, 3) := by decide +kernel
theorem dX5_serve_68 : decode cX5_serve 68 = .ok (.iload 4, 2) := by decide +kernel
theorem dX5_serve_70 : decode cX5_serve 70 = .ok (.istore_n 3, 1) := by decide +kernel
theorem dX5_serve_71 : decode cX5_serve 71 = .ok (.iinc 4 1, 3) := by decide +kernel
theorem dX5_serve_74 : decode cX5_serve 74 = .ok (.goto (-48), 3) := by decide +kernel
theorem dX5_serve_77 : decode cX5_serve 77 = .ok (.iload_n 1, 1) := by decide +kernel
theorem dX5_serve_78 : decode cX5_serve 78 = .ok (.ifCond .ne 10, 3) := by decide +kernel
theorem dX5_serve_81 : decode cX5_serve 81 = .ok (.iload_n 3, 1) := by decide +kernel
theorem dX5_serve_82 : decode cX5_serve 82 = .ok (.invokestatic 151, 3) := by decide +kernel
theorem dX5_serve_85 : decode cX5_serve 85 = .ok (.goto 24, 3) := by decide +kernel
theorem dX5_serve_88 : decode cX5_serve 88 = .ok (.iload_n 1, 1) := by decide +kernel
theorem dX5_serve_89 : decode cX5_serve 89 = .ok (.iconst 1, 1) := by decide +kernel
theorem dX5_serve_90 : decode cX5_serve 90 = .ok (.if_icmp .ne 7, 3) := by decide +kernel
theorem dX5_serve_93 : decode cX5_serve 93 = .ok (.iload_n 3, 1) := by decide +kernel
theorem dX5_serve_94 : decode cX5_serve 94 = .ok (.goto 15, 3) := by decide +kernel
theorem dX5_serve_97 : decode cX5_serve 97 = .ok (.aload_n 0, 1) := by decide +kernel
theorem dX5_serve_98 : decode cX5_serve 98 = .ok (.getfield 9, 3) := by decide +kernel
theorem dX5_serve_101 : decode cX5_serve 101 = .ok (.iconst 2, 1) := by decide +kernel
theorem dX5_serve_102 : decode cX5_serve 102 = .ok (.iaload, 1) := by decide +kernel
theorem dX5_serve_103 : decode cX5_serve 103 = .ok (.aload_n 0, 1) := by decide +kernel
theorem dX5_serve_104 : decode cX5_serve 104 = .ok (.iload_n 3, 1) := by decide +kernel
theorem dX5_serve_105 : decode cX5_serve 105 = .ok (.invokevirtual 154, 3) := by decide +kernel
theorem dX5_serve_108 : decode cX5_serve 108 = .ok (.isub, 1) := by decide +kernel
theorem dX5_serve_109 : decode cX5_serve 109 = .ok (.ireturn, 1) := by decide +kernel
set_option maxRecDepth 20000 in
theorem ggX5_signs_X5_lacksIn : GoodIn wsX5_signs wsX5_lacksIn := goodIn_r _ [5, 6, 7, 4, 8, 9, 10, 11] (by decide +kernel) (by decide +kernel)
set_option maxRecDepth 20000 in
theorem gX5_signs_X5_lacksIn : GoodIn wsX5_signs (va_wsS RX5 125 yX5_lacksIn wsX5_lacksIn) := goodIn_app (goodIn_of _ (by decide +kernel)) ggX5_signs_X5_lacksIn
set_option maxRecDepth 20000 in
theorem ggX5_signs_X5_issuesIn : GoodIn wsX5_signs wsX5_issuesIn := goodIn_r _ [14, 9, 10, 4, 11] (by decide +kernel) (by decide +kernel)
set_option maxRecDepth 20000 in
theorem gX5_signs_X5_issuesIn : GoodIn wsX5_signs (va_wsS RX5 108 yX5_issuesIn wsX5_issuesIn) := goodIn_app (goodIn_of _ (by decide +kernel)) ggX5_signs_X5_issuesIn
theorem dX5_signs_0 : decode cX5_signs 0 = .ok (.aload_n 0, 1) := by decide +kernel
theorem dX5_signs_1 : decode cX5_signs 1 = .ok (.getfield 13, 3) := by decide +kernel
theorem dX5_signs_4 : decode cX5_signs 4 = .ok (.iload_n 1, 1) := by decide +kernel
theorem dX5_signs_5 : decode cX5_signs 5 = .ok (.invokestatic 125, 3) := by decide +kernel
theorem dX5_signs_8 : decode cX5_signs 8 = .ok (.istore_n 2, 1) := by decide +kernel
theorem dX5_signs_9 : decode cX5_signs 9 = .ok (.iload_n 2, 1) := by decide +kernel
theorem dX5_signs_10 : decode cX5_signs 10 = .ok (.aload_n 0, 1) := by decide +kernel
theorem dX5_signs_11 : decode cX5_signs 11 = .ok (.getfield 13, 3) := by decide +kernel
theorem dX5_signs_14 : decode cX5_signs 14 = .ok (.iconst 2, 1) := by decide +kernel
theorem dX5_signs_15 : decode cX5_signs 15 = .ok (.iaload, 1) := by decide +kernel
theorem dX5_signs_16 : decode cX5_signs 16 = .ok (.if_icmp .le 5, 3) := by decide +kernel
theorem dX5_signs_19 : decode cX5_signs 19 = .ok (.iconst 0, 1) := by decide +kernel
theorem dX5_signs_20 : decode cX5_signs 20 = .ok (.ireturn, 1) := by decide +kernel
theorem dX5_signs_21 : decode cX5_signs 21 = .ok (.aload_n 0, 1) := by decide +kernel
theorem dX5_signs_22 : decode cX5_signs 22 = .ok (.getfield 13, 3) := by decide +kernel
theorem dX5_signs_25 : decode cX5_signs 25 = .ok (.iload_n 1, 1) := by decide +kernel
theorem dX5_signs_26 : decode cX5_signs 26 = .ok (.iload_n 2, 1) := by decide +kernel
theorem dX5_signs_27 : decode cX5_signs 27 = .ok (.invokestatic 108, 3) := by decide +kernel
theorem dX5_signs_30 : decode cX5_signs 30 = .ok (.iload_n 2, 1) := by decide +kernel
theorem dX5_signs_31 : decode cX5_signs 31 = .ok (.ireturn, 1) := by decide +kernel
set_option maxRecDepth 20000 in
theorem ggX5_best_X5_wrongBy : GoodIn wsX5_best wsX5_wrongBy := goodIn_r _ [6] (by decide +kernel) (by decide +kernel)
set_option maxRecDepth 20000 in
theorem gX5_best_X5_wrongBy : GoodIn wsX5_best (va_wsS RX5 128 yX5_wrongBy wsX5_wrongBy) := goodIn_app (goodIn_of _ (by decide +kernel)) ggX5_best_X5_wrongBy
set_option maxRecDepth 20000 in
theorem ggX5_best_X5_isIn : GoodIn wsX5_best wsX5_isIn := goodIn_r _ [9] (by decide +kernel) (by decide +kernel)
set_option maxRecDepth 20000 in
theorem gX5_best_X5_isIn : GoodIn wsX5_best (va_wsS RX5 41 yX5_isIn wsX5_isIn) := goodIn_app (goodIn_of _ (by decide +kernel)) ggX5_best_X5_isIn
set_option maxRecDepth 20000 in
theorem ggX5_best_X5_no : GoodIn wsX5_best wsX5_no := goodIn_r _ [13, 14, 65, 66, 67, 68, 69, 70, 71, 72, 73, 74, 75, 76, 77] (by decide +kernel) (by decide +kernel)
set_option maxRecDepth 20000 in
theorem gX5_best_X5_no : GoodIn wsX5_best (wsV RX5 35 RX5 yX5_no wsX5_no) := goodIn_app (goodIn_of _ (by decide +kernel)) ggX5_best_X5_no
set_option maxRecDepth 20000 in
theorem ggX5_best_X5_copies : GoodIn wsX5_best wsX5_copies := goodIn_r _ [17] (by decide +kernel) (by decide +kernel)
set_option maxRecDepth 20000 in
theorem gX5_best_X5_copies : GoodIn wsX5_best (va_wsS RX5 118 yX5_copies wsX5_copies) := goodIn_app (goodIn_of _ (by decide +kernel)) ggX5_best_X5_copies
set_option maxRecDepth 20000 in
theorem ggX5_best_X5_has : GoodIn wsX5_best wsX5_has := goodIn_r _ [20] (by decide +kernel) (by decide +kernel)
set_option maxRecDepth 20000 in
theorem gX5_best_X5_has : GoodIn wsX5_best (va_wsS RX5 145 yX5_has wsX5_has) := goodIn_app (goodIn_of _ (by decide +kernel)) ggX5_best_X5_has
set_option maxRecDepth 20000 in
theorem ggX5_best_X5_signs : GoodIn wsX5_best wsX5_signs := goodIn_r _ [24, 2, 25, 26, 5, 27, 28, 29, 30, 31, 32, 33, 34, 35, 36, 65, 66, 67, 68, 69, 70, 71, 72, 73, 74, 75, 76, 77] (by decide +kernel) (by decide +kernel)
set_option maxRecDepth 20000 in
theorem gX5_best_X5_signs : GoodIn wsX5_best (wsV RX5 157 RX5 yX5_signs wsX5_signs) := goodIn_app (goodIn_of _ (by decide +kernel)) ggX5_best_X5_signs
set_option maxRecDepth 20000 in
theorem ggX5_best_X5_throughBehind : GoodIn wsX5_best wsX5_throughBehind := goodIn_r _ [40, 2, 1, 41, 42, 5, 43, 44, 45, 46, 31, 32, 33, 47, 48, 49, 28, 29, 30, 50, 51, 52, 53, 54, 55, 56, 57, 58, 59, 60, 61, 62, 63, 64, 65, 66, 67, 68, 69, 70, 71, 72, 73, 74, 75, 76, 77] (by decide +kernel) (by decide +kernel)
set_option maxRecDepth 20000 in
theorem gX5_best_X5_throughBehind : GoodIn wsX5_best (wsV RX5 160 RX5 yX5_throughBehind wsX5_throughBehind) := goodIn_app (goodIn_of _ (by decide +kernel)) ggX5_best_X5_throughBehind
theorem dX5_best_0 : decode cX5_best 0 = .ok (.iload_n 1, 1) := by decide +kernel
theorem dX5_best_1 : decode cX5_best 1 = .ok (.iconst 1, 1) := by decide +kernel
theorem dX5_best_2 : decode cX5_best 2 = .ok (.bipush 30, 2) := by decide +kernel
theorem dX5_best_4 : decode cX5_best 4 = .ok (.invokestatic 128, 3) := by decide +kernel
theorem dX5_best_7 : decode cX5_best 7 = .ok (.istore_n 3, 1) := by decide +kernel
theorem dX5_best_8 : decode cX5_best 8 = .ok (.iload_n 3, 1) := by decide +kernel
theorem dX5_best_9 : decode cX5_best 9 = .ok (.ifCond .ne 15, 3) := by decide +kernel
theorem dX5_best_12 : decode cX5_best 12 = .ok (.iload_n 2, 1) := by decide +kernel
theorem dX5_best_13 : decode cX5_best 13 = .ok (.iconst 0, 1) := by decide +kernel
theorem dX5_best_14 : decode cX5_best 14 = .ok (.iconst 1, 1) := by decide +kernel
theorem dX5_best_15 : decode cX5_best 15 = .ok (.invokestatic 41, 3) := by decide +kernel
theorem dX5_best_18 : decode cX5_best 18 = .ok (.ifCond .ne 6, 3) := by decide +kernel
theorem dX5_best_21 : decode cX5_best 21 = .ok (.bipush (-2), 2) := by decide +kernel
theorem dX5_best_23 : decode cX5_best 23 = .ok (.istore_n 3, 1) := by decide +kernel
theorem dX5_best_24 : decode cX5_best 24 = .ok (.iload_n 3, 1) := by decide +kernel
theorem dX5_best_25 : decode cX5_best 25 = .ok (.ifCond .eq 9, 3) := by decide +kernel
theorem dX5_best_28 : decode cX5_best 28 = .ok (.aload_n 0, 1) := by decide +kernel
theorem dX5_best_29 : decode cX5_best 29 = .ok (.iload_n 3, 1) := by decide +kernel
theorem dX5_best_30 : decode cX5_best 30 = .ok (.invokevirtual 35, 3) := by decide +kernel
theorem dX5_best_33 : decode cX5_best 33 = .ok (.ireturn, 1) := by decide +kernel
theorem dX5_best_34 : decode cX5_best 34 = .ok (.iconst 0, 1) := by decide +kernel
theorem dX5_best_35 : decode cX5_best 35 = .ok (.istore 4, 2) := by decide +kernel
theorem dX5_best_37 : decode cX5_best 37 = .ok (.iconst (-1), 1) := by decide +kernel
theorem dX5_best_38 : decode cX5_best 38 = .ok (.istore 5, 2) := by decide +kernel
theorem dX5_best_40 : decode cX5_best 40 = .ok (.iconst 0, 1) := by decide +kernel
theorem dX5_best_41 : decode cX5_best 41 = .ok (.istore 6, 2) := by decide +kernel
theorem dX5_best_43 : decode cX5_best 43 = .ok (.iload 6, 2) := by decide +kernel
theorem dX5_best_45 : decode cX5_best 45 = .ok (.iconst 1, 1) := by decide +kernel
theorem dX5_best_46 : decode cX5_best 46 = .ok (.aload_n 0, 1) := by decide +kernel
theorem dX5_best_47 : decode cX5_best 47 = .ok (.getfield 9, 3) := by decide +kernel
theorem dX5_best_50 : decode cX5_best 50 = .ok (.iconst 0, 1) := by decide +kernel
theorem dX5_best_51 : decode cX5_best 51 = .ok (.iaload, 1) := by decide +kernel
theorem dX5_best_52 : decode cX5_best 52 = .ok (.ishl, 1) := by decide +kernel
theorem dX5_best_53 : decode cX5_best 53 = .ok (.if_icmp .ge 93, 3) := by decide +kernel
theorem dX5_best_56 : decode cX5_best 56 = .ok (.aload_n 0, 1) := by decide +kernel
theorem dX5_best_57 : decode cX5_best 57 = .ok (.getfield 9, 3) := by decide +kernel
theorem dX5_best_60 : decode cX5_best 60 = .ok (.aload_n 0, 1) := by decide +kernel
theorem dX5_best_61 : decode cX5_best 61 = .ok (.getfield 13, 3) := by decide +kernel
theorem dX5_best_64 : decode cX5_best 64 = .ok (.invokestatic 118, 3) := by decide +kernel
theorem dX5_best_67 : decode cX5_best 67 = .ok (.iconst 0, 1) := by decide +kernel
theorem dX5_best_68 : decode cX5_best 68 = .ok (.istore 7, 2) := by decide +kernel
theorem dX5_best_70 : decode cX5_best 70 = .ok (.iconst 0, 1) := by decide +kernel
theorem dX5_best_71 : decode cX5_best 71 = .ok (.istore 8, 2) := by decide +kernel
theorem dX5_best_73 : decode cX5_best 73 = .ok (.iload 8, 2) := by decide +kernel
theorem dX5_best_75 : decode cX5_best 75 = .ok (.aload_n 0, 1) := by decide +kernel
theorem dX5_best_76 : decode cX5_best 76 = .ok (.getfield 9, 3) := by decide +kernel
theorem dX5_best_79 : decode cX5_best 79 = .ok (.iconst 0, 1) := by decide +kernel
theorem dX5_best_80 : decode cX5_best 80 = .ok (.iaload, 1) := by decide +kernel
theorem dX5_best_81 : decode cX5_best 81 = .ok (.if_icmp .ge 34, 3) := by decide +kernel
theorem dX5_best_84 : decode cX5_best 84 = .ok (.iload 7, 2) := by decide +kernel
theorem dX5_best_86 : decode cX5_best 86 = .ok (.iload 6, 2) := by decide +kernel
theorem dX5_best_88 : decode cX5_best 88 = .ok (.iload 8, 2) := by decide +kernel
theorem dX5_best_90 : decode cX5_best 90 = .ok (.invokestatic 145, 3) := by decide +kernel
theorem dX5_best_93 : decode cX5_best 93 = .ok (.ifCond .eq 12, 3) := by decide +kernel
theorem dX5_best_96 : decode cX5_best 96 = .ok (.aload_n 0, 1) := by decide +kernel
theorem dX5_best_97 : decode cX5_best 97 = .ok (.iload 8, 2) := by decide +kernel
theorem dX5_best_99 : decode cX5_best 99 = .ok (.invokevirtual 157, 3) := by decide +kernel
theorem dX5_best_102 : decode cX5_best 102 = .ok (.goto 4, 3) := by decide +kernel
theorem dX5_best_105 : decode cX5_best 105 = .ok (.iconst 0, 1) := by decide +kernel
theorem dX5_best_106 : decode cX5_best 106 = .ok (.iadd, 1) := by decide +kernel
theorem dX5_best_107 : decode cX5_best 107 = .ok (.istore 7, 2) := by decide +kernel
theorem dX5_best_109 : decode cX5_best 109 = .ok (.iinc 8 1, 3) := by decide +kernel
theorem dX5_best_112 : decode cX5_best 112 = .ok (.goto (-39), 3) := by decide +kernel
theorem dX5_best_115 : decode cX5_best 115 = .ok (.aload_n 0, 1) := by decide +kernel
theorem dX5_best_116 : decode cX5_best 116 = .ok (.iload_n 1, 1) := by decide +kernel
theorem dX5_best_117 : decode cX5_best 117 = .ok (.invokevirtual 160, 3) := by decide +kernel
theorem dX5_best_120 : decode cX5_best 120 = .ok (.istore 8, 2) := by decide +kernel
theorem dX5_best_122 : decode cX5_best 122 = .ok (.iload 8, 2) := by decide +kernel
theorem dX5_best_124 : decode cX5_best 124 = .ok (.iload 5, 2) := by decide +kernel
theorem dX5_best_126 : decode cX5_best 126 = .ok (.if_icmp .gt 6, 3) := by decide +kernel
theorem dX5_best_129 : decode cX5_best 129 = .ok (.goto 11, 3) := by decide +kernel
theorem dX5_best_132 : decode cX5_best 132 = .ok (.iload 6, 2) := by decide +kernel
theorem dX5_best_134 : decode cX5_best 134 = .ok (.istore 4, 2) := by decide +kernel
theorem dX5_best_136 : decode cX5_best 136 = .ok (.iload 8, 2) := by decide +kernel
theorem dX5_best_138 : decode cX5_best 138 = .ok (.istore 5, 2) := by decide +kernel
theorem dX5_best_140 : decode cX5_best 140 = .ok (.iinc 6 1, 3) := by decide +kernel
theorem dX5_best_143 : decode cX5_best 143 = .ok (.goto (-100), 3) := by decide +kernel
theorem dX5_best_146 : decode cX5_best 146 = .ok (.iload_n 2, 1) := by decide +kernel
theorem dX5_best_147 : decode cX5_best 147 = .ok (.ifCond .ne 8, 3) := by decide +kernel
theorem dX5_best_150 : decode cX5_best 150 = .ok (.iload 5, 2) := by decide +kernel
theorem dX5_best_152 : decode cX5_best 152 = .ok (.goto 5, 3) := by decide +kernel
theorem dX5_best_155 : decode cX5_best 155 = .ok (.iload 4, 2) := by decide +kernel
theorem dX5_best_157 : decode cX5_best 157 = .ok (.ireturn, 1) := by decide +kernel
set_option maxRecDepth 20000 in
theorem ggX5_refusesOne_X5_of : GoodIn wsX5_refusesOne wsX5_of := goodIn_r _ [5] (by decide +kernel) (by decide +kernel)
set_option maxRecDepth 20000 in
theorem gX5_refusesOne_X5_of : GoodIn wsX5_refusesOne (va_wsS RX5 45 yX5_of wsX5_of) := goodIn_app (goodIn_of _ (by decide +kernel)) ggX5_refusesOne_X5_of
set_option maxRecDepth 20000 in
theorem ggX5_refusesOne_X5_lacksIn : GoodIn wsX5_refusesOne wsX5_lacksIn := goodIn_r _ [8, 9, 10, 4, 11, 2, 3, 5] (by decide +kernel) (by decide +kernel)
set_option maxRecDepth 20000 in
theorem gX5_refusesOne_X5_lacksIn : GoodIn wsX5_refusesOne (va_wsS RX5 125 yX5_lacksIn wsX5_lacksIn) := goodIn_app (goodIn_of _ (by decide +kernel)) ggX5_refusesOne_X5_lacksIn
set_option maxRecDepth 20000 in
theorem ggX5_refusesOne_X5_issuesIn : GoodIn wsX5_refusesOne wsX5_issuesIn := goodIn_r _ [14, 2, 3, 4, 5] (by decide +kernel) (by decide +kernel)
set_option maxRecDepth 20000 in
theorem gX5_refusesOne_X5_issuesIn : GoodIn wsX5_refusesOne (va_wsS RX5 108 yX5_issuesIn wsX5_issuesIn) := goodIn_app (goodIn_of _ (by decide +kernel)) ggX5_refusesOne_X5_issuesIn
theorem dX5_refusesOne_0 : decode cX5_refusesOne 0 = .ok (.iconst 0, 1) := by decide +kernel
theorem dX5_refusesOne_1 : decode cX5_refusesOne 1 = .ok (.istore_n 1, 1) := by decide +kernel
theorem dX5_refusesOne_2 : decode cX5_refusesOne 2 = .ok (.iload_n 1, 1) := by decide +kernel
theorem dX5_refusesOne_3 : decode cX5_refusesOne 3 = .ok (.aload_n 0, 1) := by decide +kernel
theorem dX5_refusesOne_4 : decode cX5_refusesOne 4 = .ok (.getfield 13, 3) := by decide +kernel
theorem dX5_refusesOne_7 : decode cX5_refusesOne 7 = .ok (.iconst 0, 1) := by decide +kernel
theorem dX5_refusesOne_8 : decode cX5_refusesOne 8 = .ok (.iaload, 1) := by decide +kernel
theorem dX5_refusesOne_9 : decode cX5_refusesOne 9 = .ok (.if_icmp .ge 56, 3) := by decide +kernel
theorem dX5_refusesOne_12 : decode cX5_refusesOne 12 = .ok (.aload_n 0, 1) := by decide +kernel
theorem dX5_refusesOne_13 : decode cX5_refusesOne 13 = .ok (.getfield 13, 3) := by decide +kernel
theorem dX5_refusesOne_16 : decode cX5_refusesOne 16 = .ok (.iload_n 1, 1) := by decide +kernel
theorem dX5_refusesOne_17 : decode cX5_refusesOne 17 = .ok (.iconst 3, 1) := by decide +kernel
theorem dX5_refusesOne_18 : decode cX5_refusesOne 18 = .ok (.invokestatic 45, 3) := by decide +kernel
theorem dX5_refusesOne_21 : decode cX5_refusesOne 21 = .ok (.iaload, 1) := by decide +kernel
theorem dX5_refusesOne_22 : decode cX5_refusesOne 22 = .ok (.iconst 1, 1) := by decide +kernel
theorem dX5_refusesOne_23 : decode cX5_refusesOne 23 = .ok (.if_icmp .eq 6, 3) := by decide +kernel
theorem dX5_refusesOne_26 : decode cX5_refusesOne 26 = .ok (.goto 33, 3) := by decide +kernel
theorem dX5_refusesOne_29 : decode cX5_refusesOne 29 = .ok (.aload_n 0, 1) := by decide +kernel
theorem dX5_refusesOne_30 : decode cX5_refusesOne 30 = .ok (.getfield 13, 3) := by decide +kernel
theorem dX5_refusesOne_33 : decode cX5_refusesOne 33 = .ok (.iload_n 1, 1) := by decide +kernel
theorem dX5_refusesOne_34 : decode cX5_refusesOne 34 = .ok (.invokestatic 125, 3) := by decide +kernel
theorem dX5_refusesOne_37 : decode cX5_refusesOne 37 = .ok (.istore_n 2, 1) := by decide +kernel
theorem dX5_refusesOne_38 : decode cX5_refusesOne 38 = .ok (.iload_n 2, 1) := by decide +kernel
theorem dX5_refusesOne_39 : decode cX5_refusesOne 39 = .ok (.aload_n 0, 1) := by decide +kernel
theorem dX5_refusesOne_40 : decode cX5_refusesOne 40 = .ok (.getfield 13, 3) := by decide +kernel
theorem dX5_refusesOne_43 : decode cX5_refusesOne 43 = .ok (.iconst 2, 1) := by decide +kernel
theorem dX5_refusesOne_44 : decode cX5_refusesOne 44 = .ok (.iaload, 1) := by decide +kernel
theorem dX5_refusesOne_45 : decode cX5_refusesOne 45 = .ok (.if_icmp .le 5, 3) := by decide +kernel
theorem dX5_refusesOne_48 : decode cX5_refusesOne 48 = .ok (.iload_n 1, 1) := by decide +kernel
theorem dX5_refusesOne_49 : decode cX5_refusesOne 49 = .ok (.ireturn, 1) := by decide +kernel
theorem dX5_refusesOne_50 : decode cX5_refusesOne 50 = .ok (.aload_n 0, 1) := by decide +kernel
theorem dX5_refusesOne_51 : decode cX5_refusesOne 51 = .ok (.getfield 13, 3) := by decide +kernel
theorem dX5_refusesOne_54 : decode cX5_refusesOne 54 = .ok (.iload_n 1, 1) := by decide +kernel
theorem dX5_refusesOne_55 : decode cX5_refusesOne 55 = .ok (.iload_n 2, 1) := by decide +kernel
theorem dX5_refusesOne_56 : decode cX5_refusesOne 56 = .ok (.invokestatic 108, 3) := by decide +kernel
theorem dX5_refusesOne_59 : decode cX5_refusesOne 59 = .ok (.iinc 1 1, 3) := by decide +kernel
theorem dX5_refusesOne_62 : decode cX5_refusesOne 62 = .ok (.goto (-60), 3) := by decide +kernel
theorem dX5_refusesOne_65 : decode cX5_refusesOne 65 = .ok (.bipush (-9), 2) := by decide +kernel
theorem dX5_refusesOne_67 : decode cX5_refusesOne 67 = .ok (.ireturn, 1) := by decide +kernel
set_option maxRecDepth 20000 in
theorem ggX5_run_X5_isIn : GoodIn wsX5_run wsX5_isIn := goodIn_r _ [6] (by decide +kernel) (by decide +kernel)
set_option maxRecDepth 20000 in
theorem gX5_run_X5_isIn : GoodIn wsX5_run (va_wsS RX5 41 yX5_isIn wsX5_isIn) := goodIn_app (goodIn_of _ (by decide +kernel)) ggX5_run_X5_isIn
set_option maxRecDepth 20000 in
theorem ggX5_run_X5_no : GoodIn wsX5_run wsX5_no := goodIn_r _ [10, 11, 49, 50, 51, 52, 53, 54, 55, 56, 57, 58, 59, 60, 61] (by decide +kernel) (by decide +kernel)
set_option maxRecDepth 20000 in
theorem gX5_run_X5_no : GoodIn wsX5_run (wsV RX5 35 RX5 yX5_no wsX5_no) := goodIn_app (goodIn_of _ (by decide +kernel)) ggX5_run_X5_no
set_option maxRecDepth 20000 in
theorem ggX5_run_X5_copies : GoodIn wsX5_run wsX5_copies := goodIn_r _ [14] (by decide +kernel) (by decide +kernel)
set_option maxRecDepth 20000 in
theorem gX5_run_X5_copies : GoodIn wsX5_run (va_wsS RX5 118 yX5_copies wsX5_copies) := goodIn_app (goodIn_of _ (by decide +kernel)) ggX5_run_X5_copies
set_option maxRecDepth 20000 in
theorem ggX5_run_X5_refusesOne : GoodIn wsX5_run wsX5_refusesOne := goodIn_r _ [18, 2, 19, 20, 5, 21, 22, 23, 24, 25, 26, 27, 28, 29, 30, 49, 50, 51, 52, 53, 54, 55, 56, 57, 58, 59, 60, 61] (by decide +kernel) (by decide +kernel)
set_option maxRecDepth 20000 in
theorem gX5_run_X5_refusesOne : GoodIn wsX5_run (wsV RX5 163 RX5 yX5_refusesOne wsX5_refusesOne) := goodIn_app (goodIn_of _ (by decide +kernel)) ggX5_run_X5_refusesOne
set_option maxRecDepth 20000 in
theorem ggX5_run_X5_day : GoodIn wsX5_run wsX5_day := goodIn_r _ [33, 19, 20, 5, 21, 34, 35, 36, 25, 26, 27, 37, 38, 39, 40, 41, 42, 43, 44, 45, 46, 47, 48] (by decide +kernel) (by decide +kernel)
set_option maxRecDepth 20000 in
theorem gX5_run_X5_day : GoodIn wsX5_run (va_wsS RX5 69 yX5_day wsX5_day) := goodIn_app (goodIn_of _ (by decide +kernel)) ggX5_run_X5_day
theorem dX5_run_0 : decode cX5_run 0 = .ok (.iload_n 1, 1) := by decide +kernel
theorem dX5_run_1 : decode cX5_run 1 = .ok (.iconst 0, 1) := by decide +kernel
theorem dX5_run_2 : decode cX5_run 2 = .ok (.iconst 1, 1) := by decide +kernel
theorem dX5_run_3 : decode cX5_run 3 = .ok (.invokestatic 41, 3) := by decide +kernel
theorem dX5_run_6 : decode cX5_run 6 = .ok (.ifCond .ne 10, 3) := by decide +kernel
theorem dX5_run_9 : decode cX5_run 9 = .ok (.aload_n 0, 1) := by decide +kernel
theorem dX5_run_10 : decode cX5_run 10 = .ok (.bipush (-2), 2) := by decide +kernel
theorem dX5_run_12 : decode cX5_run 12 = .ok (.invokevirtual 35, 3) := by decide +kernel
theorem dX5_run_15 : decode cX5_run 15 = .ok (.ireturn, 1) := by decide +kernel
theorem dX5_run_16 : decode cX5_run 16 = .ok (.aload_n 0, 1) := by decide +kernel
theorem dX5_run_17 : decode cX5_run 17 = .ok (.getfield 9, 3) := by decide +kernel
theorem dX5_run_20 : decode cX5_run 20 = .ok (.aload_n 0, 1) := by decide +kernel
theorem dX5_run_21 : decode cX5_run 21 = .ok (.getfield 13, 3) := by decide +kernel
theorem dX5_run_24 : decode cX5_run 24 = .ok (.invokestatic 118, 3) := by decide +kernel
theorem dX5_run_27 : decode cX5_run 27 = .ok (.iconst 0, 1) := by decide +kernel
theorem dX5_run_28 : decode cX5_run 28 = .ok (.istore_n 2, 1) := by decide +kernel
theorem dX5_run_29 : decode cX5_run 29 = .ok (.iload_n 2, 1) := by decide +kernel
theorem dX5_run_30 : decode cX5_run 30 = .ok (.bipush 60, 2) := by decide +kernel
theorem dX5_run_32 : decode cX5_run 32 = .ok (.if_icmp .gt 35, 3) := by decide +kernel
theorem dX5_run_35 : decode cX5_run 35 = .ok (.aload_n 0, 1) := by decide +kernel
theorem dX5_run_36 : decode cX5_run 36 = .ok (.invokevirtual 163, 3) := by decide +kernel
theorem dX5_run_39 : decode cX5_run 39 = .ok (.istore_n 3, 1) := by decide +kernel
theorem dX5_run_40 : decode cX5_run 40 = .ok (.iload_n 3, 1) := by decide +kernel
theorem dX5_run_41 : decode cX5_run 41 = .ok (.ifCond .lt 13, 3) := by decide +kernel
theorem dX5_run_44 : decode cX5_run 44 = .ok (.iload_n 1, 1) := by decide +kernel
theorem dX5_run_45 : decode cX5_run 45 = .ok (.ifCond .ne 7, 3) := by decide +kernel
theorem dX5_run_48 : decode cX5_run 48 = .ok (.iload_n 2, 1) := by decide +kernel
theorem dX5_run_49 : decode cX5_run 49 = .ok (.goto 4, 3) := by decide +kernel
theorem dX5_run_52 : decode cX5_run 52 = .ok (.iload_n 3, 1) := by decide +kernel
theorem dX5_run_53 : decode cX5_run 53 = .ok (.ireturn, 1) := by decide +kernel
theorem dX5_run_54 : decode cX5_run 54 = .ok (.aload_n 0, 1) := by decide +kernel
theorem dX5_run_55 : decode cX5_run 55 = .ok (.getfield 13, 3) := by decide +kernel
theorem dX5_run_58 : decode cX5_run 58 = .ok (.invokestatic 69, 3) := by decide +kernel
theorem dX5_run_61 : decode cX5_run 61 = .ok (.iinc 2 1, 3) := by decide +kernel
theorem dX5_run_64 : decode cX5_run 64 = .ok (.goto (-35), 3) := by decide +kernel
theorem dX5_run_67 : decode cX5_run 67 = .ok (.bipush (-9), 2) := by decide +kernel
theorem dX5_run_69 : decode cX5_run 69 = .ok (.ireturn, 1) := by decide +kernel
set_option maxRecDepth 20000 in
theorem ggX5_servesAll_X5_copies : GoodIn wsX5_servesAll wsX5_copies := goodIn_r _ [6] (by decide +kernel) (by decide +kernel)
set_option maxRecDepth 20000 in
theorem gX5_servesAll_X5_copies : GoodIn wsX5_servesAll (va_wsS RX5 118 yX5_copies wsX5_copies) := goodIn_app (goodIn_of _ (by decide +kernel)) ggX5_servesAll_X5_copies
set_option maxRecDepth 20000 in
theorem ggX5_servesAll_X5_refusesOne : GoodIn wsX5_servesAll wsX5_refusesOne := goodIn_r _ [10, 2, 11, 12, 5, 13, 14, 15, 16, 17, 18, 19, 20, 21, 22, 41, 42, 43, 44, 45, 46, 47, 48, 49, 50, 51, 52, 53] (by decide +kernel) (by decide +kernel)
set_option maxRecDepth 20000 in
theorem gX5_servesAll_X5_refusesOne : GoodIn wsX5_servesAll (wsV RX5 163 RX5 yX5_refusesOne wsX5_refusesOne) := goodIn_app (goodIn_of _ (by decide +kernel)) ggX5_servesAll_X5_refusesOne
set_option maxRecDepth 20000 in
theorem ggX5_servesAll_X5_day : GoodIn wsX5_servesAll wsX5_day := goodIn_r _ [25, 11, 12, 5, 13, 26, 27, 28, 17, 18, 19, 29, 30, 31, 32, 33, 34, 35, 36, 37, 38, 39, 40] (by decide +kernel) (by decide +kernel)
set_option maxRecDepth 20000 in
theorem gX5_servesAll_X5_day : GoodIn wsX5_servesAll (va_wsS RX5 69 yX5_day wsX5_day) := goodIn_app (goodIn_of _ (by decide +kernel)) ggX5_servesAll_X5_day
theorem dX5_servesAll_0 : decode cX5_servesAll 0 = .ok (.aload_n 0, 1) := by decide +kernel
theorem dX5_servesAll_1 : decode cX5_servesAll 1 = .ok (.getfield 9, 3) := by decide +kernel
theorem dX5_servesAll_4 : decode cX5_servesAll 4 = .ok (.aload_n 0, 1) := by decide +kernel
theorem dX5_servesAll_5 : decode cX5_servesAll 5 = .ok (.getfield 13, 3) := by decide +kernel
theorem dX5_servesAll_8 : decode cX5_servesAll 8 = .ok (.invokestatic 118, 3) := by decide +kernel
theorem dX5_servesAll_11 : decode cX5_servesAll 11 = .ok (.aload_n 0, 1) := by decide +kernel
theorem dX5_servesAll_12 : decode cX5_servesAll 12 = .ok (.getfield 13, 3) := by decide +kernel
theorem dX5_servesAll_15 : decode cX5_servesAll 15 = .ok (.iconst 2, 1) := by decide +kernel
theorem dX5_servesAll_16 : decode cX5_servesAll 16 = .ok (.iload_n 1, 1) := by decide +kernel
theorem dX5_servesAll_17 : decode cX5_servesAll 17 = .ok (.iastore, 1) := by decide +kernel
theorem dX5_servesAll_18 : decode cX5_servesAll 18 = .ok (.iconst 0, 1) := by decide +kernel
theorem dX5_servesAll_19 : decode cX5_servesAll 19 = .ok (.istore_n 3, 1) := by decide +kernel
theorem dX5_servesAll_20 : decode cX5_servesAll 20 = .ok (.iload_n 3, 1) := by decide +kernel
theorem dX5_servesAll_21 : decode cX5_servesAll 21 = .ok (.iload_n 2, 1) := by decide +kernel
theorem dX5_servesAll_22 : decode cX5_servesAll 22 = .ok (.if_icmp .ge 25, 3) := by decide +kernel
theorem dX5_servesAll_25 : decode cX5_servesAll 25 = .ok (.aload_n 0, 1) := by decide +kernel
theorem dX5_servesAll_26 : decode cX5_servesAll 26 = .ok (.invokevirtual 163, 3) := by decide +kernel
theorem dX5_servesAll_29 : decode cX5_servesAll 29 = .ok (.ifCond .lt 5, 3) := by decide +kernel
theorem dX5_servesAll_32 : decode cX5_servesAll 32 = .ok (.iconst 0, 1) := by decide +kernel
theorem dX5_servesAll_33 : decode cX5_servesAll 33 = .ok (.ireturn, 1) := by decide +kernel
theorem dX5_servesAll_34 : decode cX5_servesAll 34 = .ok (.aload_n 0, 1) := by decide +kernel
theorem dX5_servesAll_35 : decode cX5_servesAll 35 = .ok (.getfield 13, 3) := by decide +kernel
theorem dX5_servesAll_38 : decode cX5_servesAll 38 = .ok (.invokestatic 69, 3) := by decide +kernel
theorem dX5_servesAll_41 : decode cX5_servesAll 41 = .ok (.iinc 3 1, 3) := by decide +kernel
theorem dX5_servesAll_44 : decode cX5_servesAll 44 = .ok (.goto (-24), 3) := by decide +kernel
theorem dX5_servesAll_47 : decode cX5_servesAll 47 = .ok (.iconst 1, 1) := by decide +kernel
theorem dX5_servesAll_48 : decode cX5_servesAll 48 = .ok (.ireturn, 1) := by decide +kernel
set_option maxRecDepth 20000 in
theorem ggX5_stock_X5_wrongBy : GoodIn wsX5_stock wsX5_wrongBy := goodIn_r _ [4] (by decide +kernel) (by decide +kernel)
set_option maxRecDepth 20000 in
theorem gX5_stock_X5_wrongBy : GoodIn wsX5_stock (va_wsS RX5 128 yX5_wrongBy wsX5_wrongBy) := goodIn_app (goodIn_of _ (by decide +kernel)) ggX5_stock_X5_wrongBy
set_option maxRecDepth 20000 in
theorem ggX5_stock_X5_no : GoodIn wsX5_stock wsX5_no := goodIn_r _ [8, 9, 53, 54, 55, 56, 57, 58, 59, 60, 61, 62, 63, 64, 65] (by decide +kernel) (by decide +kernel)
set_option maxRecDepth 20000 in
theorem gX5_stock_X5_no : GoodIn wsX5_stock (wsV RX5 35 RX5 yX5_no wsX5_no) := goodIn_app (goodIn_of _ (by decide +kernel)) ggX5_stock_X5_no
set_option maxRecDepth 20000 in
theorem ggX5_stock_X5_servesAll : GoodIn wsX5_stock wsX5_servesAll := goodIn_r _ [13, 14, 15, 16, 17, 3, 18, 19, 20, 21, 22, 23, 24, 25, 26, 27, 28, 29, 30, 31, 32, 33, 34, 35, 36, 37, 38, 39, 40, 41, 42, 43, 44, 45, 46, 47, 48, 49, 50, 51, 52, 53, 54, 55, 56, 57, 58, 59, 60, 61, 62, 63, 64, 65] (by decide +kernel) (by decide +kernel)
set_option maxRecDepth 20000 in
theorem gX5_stock_X5_servesAll : GoodIn wsX5_stock (wsV RX5 166 RX5 yX5_servesAll wsX5_servesAll) := goodIn_app (goodIn_of _ (by decide +kernel)) ggX5_stock_X5_servesAll
theorem dX5_stock_0 : decode cX5_stock 0 = .ok (.iload_n 1, 1) := by decide +kernel
theorem dX5_stock_1 : decode cX5_stock 1 = .ok (.iconst 1, 1) := by decide +kernel
theorem dX5_stock_2 : decode cX5_stock 2 = .ok (.bipush 30, 2) := by decide +kernel
theorem dX5_stock_4 : decode cX5_stock 4 = .ok (.invokestatic 128, 3) := by decide +kernel
theorem dX5_stock_7 : decode cX5_stock 7 = .ok (.istore_n 2, 1) := by decide +kernel
theorem dX5_stock_8 : decode cX5_stock 8 = .ok (.iload_n 2, 1) := by decide +kernel
theorem dX5_stock_9 : decode cX5_stock 9 = .ok (.ifCond .eq 9, 3) := by decide +kernel
theorem dX5_stock_12 : decode cX5_stock 12 = .ok (.aload_n 0, 1) := by decide +kernel
theorem dX5_stock_13 : decode cX5_stock 13 = .ok (.iload_n 2, 1) := by decide +kernel
theorem dX5_stock_14 : decode cX5_stock 14 = .ok (.invokevirtual 35, 3) := by decide +kernel
theorem dX5_stock_17 : decode cX5_stock 17 = .ok (.ireturn, 1) := by decide +kernel
theorem dX5_stock_18 : decode cX5_stock 18 = .ok (.iconst 0, 1) := by decide +kernel
theorem dX5_stock_19 : decode cX5_stock 19 = .ok (.istore_n 3, 1) := by decide +kernel
theorem dX5_stock_20 : decode cX5_stock 20 = .ok (.iload_n 3, 1) := by decide +kernel
theorem dX5_stock_21 : decode cX5_stock 21 = .ok (.sipush 999, 3) := by decide +kernel
theorem dX5_stock_24 : decode cX5_stock 24 = .ok (.if_icmp .gt 20, 3) := by decide +kernel
theorem dX5_stock_27 : decode cX5_stock 27 = .ok (.aload_n 0, 1) := by decide +kernel
theorem dX5_stock_28 : decode cX5_stock 28 = .ok (.iload_n 3, 1) := by decide +kernel
theorem dX5_stock_29 : decode cX5_stock 29 = .ok (.iload_n 1, 1) := by decide +kernel
theorem dX5_stock_30 : decode cX5_stock 30 = .ok (.invokevirtual 166, 3) := by decide +kernel
theorem dX5_stock_33 : decode cX5_stock 33 = .ok (.ifCond .eq 5, 3) := by decide +kernel
theorem dX5_stock_36 : decode cX5_stock 36 = .ok (.iload_n 3, 1) := by decide +kernel
theorem dX5_stock_37 : decode cX5_stock 37 = .ok (.ireturn, 1) := by decide +kernel
theorem dX5_stock_38 : decode cX5_stock 38 = .ok (.iinc 3 1, 3) := by decide +kernel
theorem dX5_stock_41 : decode cX5_stock 41 = .ok (.goto (-21), 3) := by decide +kernel
theorem dX5_stock_44 : decode cX5_stock 44 = .ok (.bipush (-9), 2) := by decide +kernel
theorem dX5_stock_46 : decode cX5_stock 46 = .ok (.ireturn, 1) := by decide +kernel
set_option maxRecDepth 20000 in
theorem ggX5_throughOf_X5_of : GoodIn wsX5_throughOf wsX5_of := goodIn_r _ [5] (by decide +kernel) (by decide +kernel)
set_option maxRecDepth 20000 in
theorem gX5_throughOf_X5_of : GoodIn wsX5_throughOf (va_wsS RX5 45 yX5_of wsX5_of) := goodIn_app (goodIn_of _ (by decide +kernel)) ggX5_throughOf_X5_of
theorem dX5_throughOf_0 : decode cX5_throughOf 0 = .ok (.aload_n 1, 1) := by decide +kernel
theorem dX5_throughOf_1 : decode cX5_throughOf 1 = .ok (.iload_n 2, 1) := by decide +kernel
theorem dX5_throughOf_2 : decode cX5_throughOf 2 = .ok (.iconst 4, 1) := by decide +kernel
theorem dX5_throughOf_3 : decode cX5_throughOf 3 = .ok (.invokestatic 45, 3) := by decide +kernel
theorem dX5_throughOf_6 : decode cX5_throughOf 6 = .ok (.iaload, 1) := by decide +kernel
theorem dX5_throughOf_7 : decode cX5_throughOf 7 = .ok (.aload_n 0, 1) := by decide +kernel
theorem dX5_throughOf_8 : decode cX5_throughOf 8 = .ok (.getfield 9, 3) := by decide +kernel
theorem dX5_throughOf_11 : decode cX5_throughOf 11 = .ok (.iload_n 2, 1) := by decide +kernel
theorem dX5_throughOf_12 : decode cX5_throughOf 12 = .ok (.iconst 4, 1) := by decide +kernel
theorem dX5_throughOf_13 : decode cX5_throughOf 13 = .ok (.invokestatic 45, 3) := by decide +kernel
theorem dX5_throughOf_16 : decode cX5_throughOf 16 = .ok (.iaload, 1) := by decide +kernel
theorem dX5_throughOf_17 : decode cX5_throughOf 17 = .ok (.isub, 1) := by decide +kernel
theorem dX5_throughOf_18 : decode cX5_throughOf 18 = .ok (.ireturn, 1) := by decide +kernel
set_option maxRecDepth 20000 in
theorem ggX5_borrow_X5_isOne : GoodIn wsX5_borrow wsX5_isOne := goodIn_r _ [7, 1, 8, 9, 6, 10, 60, 61, 62, 63, 64, 65, 66, 67, 68, 69, 70, 71, 72] (by decide +kernel) (by decide +kernel)
set_option maxRecDepth 20000 in
theorem gX5_borrow_X5_isOne : GoodIn wsX5_borrow (wsV RX5 104 RX5 yX5_isOne wsX5_isOne) := goodIn_app (goodIn_of _ (by decide +kernel)) ggX5_borrow_X5_isOne
set_option maxRecDepth 20000 in
theorem ggX5_borrow_X5_wrongBy : GoodIn wsX5_borrow wsX5_wrongBy := goodIn_r _ [13] (by decide +kernel) (by decide +kernel)
set_option maxRecDepth 20000 in
theorem gX5_borrow_X5_wrongBy : GoodIn wsX5_borrow (va_wsS RX5 128 yX5_wrongBy wsX5_wrongBy) := goodIn_app (goodIn_of _ (by decide +kernel)) ggX5_borrow_X5_wrongBy
set_option maxRecDepth 20000 in
theorem ggX5_borrow_X5_no : GoodIn wsX5_borrow wsX5_no := goodIn_r _ [17, 18, 60, 61, 62, 63, 64, 65, 66, 67, 68, 69, 70, 71, 72] (by decide +kernel) (by decide +kernel)
set_option maxRecDepth 20000 in
theorem gX5_borrow_X5_no : GoodIn wsX5_borrow (wsV RX5 35 RX5 yX5_no wsX5_no) := goodIn_app (goodIn_of _ (by decide +kernel)) ggX5_borrow_X5_no
set_option maxRecDepth 20000 in
theorem ggX5_borrow_X5_lacksIn : GoodIn wsX5_borrow wsX5_lacksIn := goodIn_r _ [21, 22, 23, 6, 24, 25, 26, 27] (by decide +kernel) (by decide +kernel)
set_option maxRecDepth 20000 in
theorem gX5_borrow_X5_lacksIn : GoodIn wsX5_borrow (va_wsS RX5 125 yX5_lacksIn wsX5_lacksIn) := goodIn_app (goodIn_of _ (by decide +kernel)) ggX5_borrow_X5_lacksIn
set_option maxRecDepth 20000 in
theorem ggX5_borrow_X5_of : GoodIn wsX5_borrow wsX5_of := goodIn_r _ [27] (by decide +kernel) (by decide +kernel)
set_option maxRecDepth 20000 in
theorem gX5_borrow_X5_of : GoodIn wsX5_borrow (va_wsS RX5 45 yX5_of wsX5_of) := goodIn_app (goodIn_of _ (by decide +kernel)) ggX5_borrow_X5_of
set_option maxRecDepth 20000 in
theorem ggX5_borrow_X5_takes : GoodIn wsX5_borrow wsX5_takes := goodIn_r _ [31, 1, 2, 32, 33, 6, 34, 35, 36, 37, 38, 39, 40, 25, 26, 27, 41, 42, 43, 22, 23, 24, 44, 45, 46, 47, 48, 49, 50, 51, 52, 53, 54, 55, 60, 61, 62, 63, 64, 65, 66, 67, 68, 69, 70, 71, 72] (by decide +kernel) (by decide +kernel)
set_option maxRecDepth 20000 in
theorem gX5_borrow_X5_takes : GoodIn wsX5_borrow (wsV RX5 132 RX5 yX5_takes wsX5_takes) := goodIn_app (goodIn_of _ (by decide +kernel)) ggX5_borrow_X5_takes
set_option maxRecDepth 20000 in
theorem ggX5_borrow_X5_throughOf : GoodIn wsX5_borrow wsX5_throughOf := goodIn_r _ [59, 1, 25, 26, 6, 27, 60, 61, 62, 63, 64, 65, 66, 67, 68, 69, 70, 71, 72] (by decide +kernel) (by decide +kernel)
set_option maxRecDepth 20000 in
theorem gX5_borrow_X5_throughOf : GoodIn wsX5_borrow (wsV RX5 169 RX5 yX5_throughOf wsX5_throughOf) := goodIn_app (goodIn_of _ (by decide +kernel)) ggX5_borrow_X5_throughOf
set_option maxRecDepth 20000 in
theorem ggX5_borrow_X5_copies : GoodIn wsX5_borrow wsX5_copies := goodIn_r _ [34] (by decide +kernel) (by decide +kernel)
set_option maxRecDepth 20000 in
theorem gX5_borrow_X5_copies : GoodIn wsX5_borrow (va_wsS RX5 118 yX5_copies wsX5_copies) := goodIn_app (goodIn_of _ (by decide +kernel)) ggX5_borrow_X5_copies
set_option maxRecDepth 20000 in
theorem ggX5_borrow_X5_daysOn : GoodIn wsX5_borrow wsX5_daysOn := goodIn_r _ [37, 38, 39, 6, 40, 25, 26, 27, 41, 42, 43, 22, 23, 24, 44, 45, 46, 47, 48, 49, 50, 51, 52, 53, 54, 55] (by decide +kernel) (by decide +kernel)
set_option maxRecDepth 20000 in
theorem gX5_borrow_X5_daysOn : GoodIn wsX5_borrow (va_wsS RX5 73 yX5_daysOn wsX5_daysOn) := goodIn_app (goodIn_of _ (by decide +kernel)) ggX5_borrow_X5_daysOn
theorem dX5_borrow_0 : decode cX5_borrow 0 = .ok (.aload_n 0, 1) := by decide +kernel
theorem dX5_borrow_1 : decode cX5_borrow 1 = .ok (.iload_n 1, 1) := by decide +kernel
theorem dX5_borrow_2 : decode cX5_borrow 2 = .ok (.invokevirtual 104, 3) := by decide +kernel
theorem dX5_borrow_5 : decode cX5_borrow 5 = .ok (.ifCond .eq 13, 3) := by decide +kernel
theorem dX5_borrow_8 : decode cX5_borrow 8 = .ok (.iload_n 2, 1) := by decide +kernel
theorem dX5_borrow_9 : decode cX5_borrow 9 = .ok (.iconst 1, 1) := by decide +kernel
theorem dX5_borrow_10 : decode cX5_borrow 10 = .ok (.bipush 30, 2) := by decide +kernel
theorem dX5_borrow_12 : decode cX5_borrow 12 = .ok (.invokestatic 128, 3) := by decide +kernel
theorem dX5_borrow_15 : decode cX5_borrow 15 = .ok (.goto 4, 3) := by decide +kernel
theorem dX5_borrow_18 : decode cX5_borrow 18 = .ok (.iconst (-1), 1) := by decide +kernel
theorem dX5_borrow_19 : decode cX5_borrow 19 = .ok (.istore_n 3, 1) := by decide +kernel
theorem dX5_borrow_20 : decode cX5_borrow 20 = .ok (.iload_n 3, 1) := by decide +kernel
theorem dX5_borrow_21 : decode cX5_borrow 21 = .ok (.ifCond .eq 9, 3) := by decide +kernel
theorem dX5_borrow_24 : decode cX5_borrow 24 = .ok (.aload_n 0, 1) := by decide +kernel
theorem dX5_borrow_25 : decode cX5_borrow 25 = .ok (.iload_n 3, 1) := by decide +kernel
theorem dX5_borrow_26 : decode cX5_borrow 26 = .ok (.invokevirtual 35, 3) := by decide +kernel
theorem dX5_borrow_29 : decode cX5_borrow 29 = .ok (.ireturn, 1) := by decide +kernel
theorem dX5_borrow_30 : decode cX5_borrow 30 = .ok (.aload_n 0, 1) := by decide +kernel
theorem dX5_borrow_31 : decode cX5_borrow 31 = .ok (.getfield 9, 3) := by decide +kernel
theorem dX5_borrow_34 : decode cX5_borrow 34 = .ok (.iload_n 1, 1) := by decide +kernel
theorem dX5_borrow_35 : decode cX5_borrow 35 = .ok (.invokestatic 125, 3) := by decide +kernel
theorem dX5_borrow_38 : decode cX5_borrow 38 = .ok (.istore 4, 2) := by decide +kernel
theorem dX5_borrow_40 : decode cX5_borrow 40 = .ok (.bipush (-9), 2) := by decide +kernel
theorem dX5_borrow_42 : decode cX5_borrow 42 = .ok (.istore 5, 2) := by decide +kernel
theorem dX5_borrow_44 : decode cX5_borrow 44 = .ok (.iconst 0, 1) := by decide +kernel
theorem dX5_borrow_45 : decode cX5_borrow 45 = .ok (.istore 6, 2) := by decide +kernel
theorem dX5_borrow_47 : decode cX5_borrow 47 = .ok (.iconst 0, 1) := by decide +kernel
theorem dX5_borrow_48 : decode cX5_borrow 48 = .ok (.istore 7, 2) := by decide +kernel
theorem dX5_borrow_50 : decode cX5_borrow 50 = .ok (.iload 7, 2) := by decide +kernel
theorem dX5_borrow_52 : decode cX5_borrow 52 = .ok (.aload_n 0, 1) := by decide +kernel
theorem dX5_borrow_53 : decode cX5_borrow 53 = .ok (.getfield 9, 3) := by decide +kernel
theorem dX5_borrow_56 : decode cX5_borrow 56 = .ok (.iconst 0, 1) := by decide +kernel
theorem dX5_borrow_57 : decode cX5_borrow 57 = .ok (.iaload, 1) := by decide +kernel
theorem dX5_borrow_58 : decode cX5_borrow 58 = .ok (.if_icmp .ge 159, 3) := by decide +kernel
theorem dX5_borrow_61 : decode cX5_borrow 61 = .ok (.iload 4, 2) := by decide +kernel
theorem dX5_borrow_63 : decode cX5_borrow 63 = .ok (.ifCond .le 154, 3) := by decide +kernel
theorem dX5_borrow_66 : decode cX5_borrow 66 = .ok (.iload 7, 2) := by decide +kernel
theorem dX5_borrow_68 : decode cX5_borrow 68 = .ok (.iload_n 1, 1) := by decide +kernel
theorem dX5_borrow_69 : decode cX5_borrow 69 = .ok (.if_icmp .eq 142, 3) := by decide +kernel
theorem dX5_borrow_72 : decode cX5_borrow 72 = .ok (.aload_n 0, 1) := by decide +kernel
theorem dX5_borrow_73 : decode cX5_borrow 73 = .ok (.getfield 9, 3) := by decide +kernel
theorem dX5_borrow_76 : decode cX5_borrow 76 = .ok (.iload 7, 2) := by decide +kernel
theorem dX5_borrow_78 : decode cX5_borrow 78 = .ok (.iconst 2, 1) := by decide +kernel
theorem dX5_borrow_79 : decode cX5_borrow 79 = .ok (.invokestatic 45, 3) := by decide +kernel
theorem dX5_borrow_82 : decode cX5_borrow 82 = .ok (.iaload, 1) := by decide +kernel
theorem dX5_borrow_83 : decode cX5_borrow 83 = .ok (.iload 4, 2) := by decide +kernel
theorem dX5_borrow_85 : decode cX5_borrow 85 = .ok (.if_icmp .ge 6, 3) := by decide +kernel
theorem dX5_borrow_88 : decode cX5_borrow 88 = .ok (.goto 123, 3) := by decide +kernel
theorem dX5_borrow_91 : decode cX5_borrow 91 = .ok (.aload_n 0, 1) := by decide +kernel
theorem dX5_borrow_92 : decode cX5_borrow 92 = .ok (.iload_n 2, 1) := by decide +kernel
theorem dX5_borrow_93 : decode cX5_borrow 93 = .ok (.invokevirtual 132, 3) := by decide +kernel
theorem dX5_borrow_96 : decode cX5_borrow 96 = .ok (.aload_n 0, 1) := by decide +kernel
theorem dX5_borrow_97 : decode cX5_borrow 97 = .ok (.aload_n 0, 1) := by decide +kernel
theorem dX5_borrow_98 : decode cX5_borrow 98 = .ok (.getfield 13, 3) := by decide +kernel
theorem dX5_borrow_101 : decode cX5_borrow 101 = .ok (.iload_n 1, 1) := by decide +kernel
theorem dX5_borrow_102 : decode cX5_borrow 102 = .ok (.invokevirtual 169, 3) := by decide +kernel
theorem dX5_borrow_105 : decode cX5_borrow 105 = .ok (.aload_n 0, 1) := by decide +kernel
theorem dX5_borrow_106 : decode cX5_borrow 106 = .ok (.aload_n 0, 1) := by decide +kernel
theorem dX5_borrow_107 : decode cX5_borrow 107 = .ok (.getfield 13, 3) := by decide +kernel
theorem dX5_borrow_110 : decode cX5_borrow 110 = .ok (.iload 7, 2) := by decide +kernel
theorem dX5_borrow_112 : decode cX5_borrow 112 = .ok (.invokevirtual 169, 3) := by decide +kernel
theorem dX5_borrow_115 : decode cX5_borrow 115 = .ok (.iadd, 1) := by decide +kernel
theorem dX5_borrow_116 : decode cX5_borrow 116 = .ok (.istore 8, 2) := by decide +kernel
theorem dX5_borrow_118 : decode cX5_borrow 118 = .ok (.aload_n 0, 1) := by decide +kernel
theorem dX5_borrow_119 : decode cX5_borrow 119 = .ok (.getfield 9, 3) := by decide +kernel
theorem dX5_borrow_122 : decode cX5_borrow 122 = .ok (.aload_n 0, 1) := by decide +kernel
theorem dX5_borrow_123 : decode cX5_borrow 123 = .ok (.getfield 13, 3) := by decide +kernel
theorem dX5_borrow_126 : decode cX5_borrow 126 = .ok (.invokestatic 118, 3) := by decide +kernel
theorem dX5_borrow_129 : decode cX5_borrow 129 = .ok (.aload_n 0, 1) := by decide +kernel
theorem dX5_borrow_130 : decode cX5_borrow 130 = .ok (.getfield 13, 3) := by decide +kernel
theorem dX5_borrow_133 : decode cX5_borrow 133 = .ok (.iload 7, 2) := by decide +kernel
theorem dX5_borrow_135 : decode cX5_borrow 135 = .ok (.iconst 2, 1) := by decide +kernel
theorem dX5_borrow_136 : decode cX5_borrow 136 = .ok (.invokestatic 45, 3) := by decide +kernel
theorem dX5_borrow_139 : decode cX5_borrow 139 = .ok (.dup2, 1) := by decide +kernel
theorem dX5_borrow_140 : decode cX5_borrow 140 = .ok (.iaload, 1) := by decide +kernel
theorem dX5_borrow_141 : decode cX5_borrow 141 = .ok (.iload 4, 2) := by decide +kernel
theorem dX5_borrow_143 : decode cX5_borrow 143 = .ok (.isub, 1) := by decide +kernel
theorem dX5_borrow_144 : decode cX5_borrow 144 = .ok (.iastore, 1) := by decide +kernel
theorem dX5_borrow_145 : decode cX5_borrow 145 = .ok (.aload_n 0, 1) := by decide +kernel
theorem dX5_borrow_146 : decode cX5_borrow 146 = .ok (.getfield 13, 3) := by decide +kernel
theorem dX5_borrow_149 : decode cX5_borrow 149 = .ok (.iload_n 1, 1) := by decide +kernel
theorem dX5_borrow_150 : decode cX5_borrow 150 = .ok (.iconst 2, 1) := by decide +kernel
theorem dX5_borrow_151 : decode cX5_borrow 151 = .ok (.invokestatic 45, 3) := by decide +kernel
theorem dX5_borrow_154 : decode cX5_borrow 154 = .ok (.dup2, 1) := by decide +kernel
theorem dX5_borrow_155 : decode cX5_borrow 155 = .ok (.iaload, 1) := by decide +kernel
theorem dX5_borrow_156 : decode cX5_borrow 156 = .ok (.iload 4, 2) := by decide +kernel
theorem dX5_borrow_158 : decode cX5_borrow 158 = .ok (.iadd, 1) := by decide +kernel
theorem dX5_borrow_159 : decode cX5_borrow 159 = .ok (.iastore, 1) := by decide +kernel
theorem dX5_borrow_160 : decode cX5_borrow 160 = .ok (.aload_n 0, 1) := by decide +kernel
theorem dX5_borrow_161 : decode cX5_borrow 161 = .ok (.getfield 13, 3) := by decide +kernel
theorem dX5_borrow_164 : decode cX5_borrow 164 = .ok (.iload_n 2, 1) := by decide +kernel
theorem dX5_borrow_165 : decode cX5_borrow 165 = .ok (.invokestatic 73, 3) := by decide +kernel
theorem dX5_borrow_168 : decode cX5_borrow 168 = .ok (.aload_n 0, 1) := by decide +kernel
theorem dX5_borrow_169 : decode cX5_borrow 169 = .ok (.aload_n 0, 1) := by decide +kernel
theorem dX5_borrow_170 : decode cX5_borrow 170 = .ok (.getfield 13, 3) := by decide +kernel
theorem dX5_borrow_173 : decode cX5_borrow 173 = .ok (.iload_n 1, 1) := by decide +kernel
theorem dX5_borrow_174 : decode cX5_borrow 174 = .ok (.invokevirtual 169, 3) := by decide +kernel
theorem dX5_borrow_177 : decode cX5_borrow 177 = .ok (.aload_n 0, 1) := by decide +kernel
theorem dX5_borrow_178 : decode cX5_borrow 178 = .ok (.aload_n 0, 1) := by decide +kernel
theorem dX5_borrow_179 : decode cX5_borrow 179 = .ok (.getfield 13, 3) := by decide +kernel
theorem dX5_borrow_182 : decode cX5_borrow 182 = .ok (.iload 7, 2) := by decide +kernel
theorem dX5_borrow_184 : decode cX5_borrow 184 = .ok (.invokevirtual 169, 3) := by decide +kernel
theorem dX5_borrow_187 : decode cX5_borrow 187 = .ok (.iadd, 1) := by decide +kernel
theorem dX5_borrow_188 : decode cX5_borrow 188 = .ok (.iload 8, 2) := by decide +kernel
theorem dX5_borrow_190 : decode cX5_borrow 190 = .ok (.isub, 1) := by decide +kernel
theorem dX5_borrow_191 : decode cX5_borrow 191 = .ok (.istore 9, 2) := by decide +kernel
theorem dX5_borrow_193 : decode cX5_borrow 193 = .ok (.iload 9, 2) := by decide +kernel
theorem dX5_borrow_195 : decode cX5_borrow 195 = .ok (.iload 6, 2) := by decide +kernel
theorem dX5_borrow_197 : decode cX5_borrow 197 = .ok (.if_icmp .gt 6, 3) := by decide +kernel
theorem dX5_borrow_200 : decode cX5_borrow 200 = .ok (.goto 11, 3) := by decide +kernel
theorem dX5_borrow_203 : decode cX5_borrow 203 = .ok (.iload 7, 2) := by decide +kernel
theorem dX5_borrow_205 : decode cX5_borrow 205 = .ok (.istore 5, 2) := by decide +kernel
theorem dX5_borrow_207 : decode cX5_borrow 207 = .ok (.iload 9, 2) := by decide +kernel
theorem dX5_borrow_209 : decode cX5_borrow 209 = .ok (.istore 6, 2) := by decide +kernel
theorem dX5_borrow_211 : decode cX5_borrow 211 = .ok (.iinc 7 1, 3) := by decide +kernel
theorem dX5_borrow_214 : decode cX5_borrow 214 = .ok (.goto (-164), 3) := by decide +kernel
theorem dX5_borrow_217 : decode cX5_borrow 217 = .ok (.iload 5, 2) := by decide +kernel
theorem dX5_borrow_219 : decode cX5_borrow 219 = .ok (.ireturn, 1) := by decide +kernel
set_option maxRecDepth 20000 in
theorem ggX5_sweep_X5_wrongBy : GoodIn wsX5_sweep wsX5_wrongBy := goodIn_r _ [7] (by decide +kernel) (by decide +kernel)
set_option maxRecDepth 20000 in
theorem gX5_sweep_X5_wrongBy : GoodIn wsX5_sweep (va_wsS RX5 128 yX5_wrongBy wsX5_wrongBy) := goodIn_app (goodIn_of _ (by decide +kernel)) ggX5_sweep_X5_wrongBy
set_option maxRecDepth 20000 in
theorem ggX5_sweep_X5_isIn : GoodIn wsX5_sweep wsX5_isIn := goodIn_r _ [10] (by decide +kernel) (by decide +kernel)
set_option maxRecDepth 20000 in
theorem gX5_sweep_X5_isIn : GoodIn wsX5_sweep (va_wsS RX5 41 yX5_isIn wsX5_isIn) := goodIn_app (goodIn_of _ (by decide +kernel)) ggX5_sweep_X5_isIn
set_option maxRecDepth 20000 in
theorem ggX5_sweep_X5_no : GoodIn wsX5_sweep wsX5_no := goodIn_r _ [14, 15, 56, 57, 58, 59, 60, 61, 62, 63, 64, 65, 66, 67, 68] (by decide +kernel) (by decide +kernel)
set_option maxRecDepth 20000 in
theorem gX5_sweep_X5_no : GoodIn wsX5_sweep (wsV RX5 35 RX5 yX5_no wsX5_no) := goodIn_app (goodIn_of _ (by decide +kernel)) ggX5_sweep_X5_no
set_option maxRecDepth 20000 in
theorem ggX5_sweep_X5_takes : GoodIn wsX5_sweep wsX5_takes := goodIn_r _ [19, 3, 1, 20, 21, 6, 22, 23, 24, 25, 26, 27, 28, 29, 30, 31, 32, 33, 34, 35, 36, 37, 38, 39, 40, 41, 42, 43, 44, 45, 46, 47, 48, 49, 56, 57, 58, 59, 60, 61, 62, 63, 64, 65, 66, 67, 68] (by decide +kernel) (by decide +kernel)
set_option maxRecDepth 20000 in
theorem gX5_sweep_X5_takes : GoodIn wsX5_sweep (wsV RX5 132 RX5 yX5_takes wsX5_takes) := goodIn_app (goodIn_of _ (by decide +kernel)) ggX5_sweep_X5_takes
set_option maxRecDepth 20000 in
theorem ggX5_sweep_X5_allOf : GoodIn wsX5_sweep wsX5_allOf := goodIn_r _ [52, 29, 30, 6, 31] (by decide +kernel) (by decide +kernel)
set_option maxRecDepth 20000 in
theorem gX5_sweep_X5_allOf : GoodIn wsX5_sweep (va_wsS RX5 76 yX5_allOf wsX5_allOf) := goodIn_app (goodIn_of _ (by decide +kernel)) ggX5_sweep_X5_allOf
set_option maxRecDepth 20000 in
theorem ggX5_sweep_X5_of : GoodIn wsX5_sweep wsX5_of := goodIn_r _ [31] (by decide +kernel) (by decide +kernel)
set_option maxRecDepth 20000 in
theorem gX5_sweep_X5_of : GoodIn wsX5_sweep (va_wsS RX5 45 yX5_of wsX5_of) := goodIn_app (goodIn_of _ (by decide +kernel)) ggX5_sweep_X5_of
set_option maxRecDepth 20000 in
theorem ggX5_sweep_X5_copies : GoodIn wsX5_sweep wsX5_copies := goodIn_r _ [22] (by decide +kernel) (by decide +kernel)
set_option maxRecDepth 20000 in
theorem gX5_sweep_X5_copies : GoodIn wsX5_sweep (va_wsS RX5 118 yX5_copies wsX5_copies) := goodIn_app (goodIn_of _ (by decide +kernel)) ggX5_sweep_X5_copies
set_option maxRecDepth 20000 in
theorem ggX5_sweep_X5_handsIn : GoodIn wsX5_sweep wsX5_handsIn := goodIn_r _ [55, 29, 30, 6, 31, 38, 39, 40, 44, 45, 46] (by decide +kernel) (by decide +kernel)
set_option maxRecDepth 20000 in
theorem gX5_sweep_X5_handsIn : GoodIn wsX5_sweep (va_wsS RX5 112 yX5_handsIn wsX5_handsIn) := goodIn_app (goodIn_of _ (by decide +kernel)) ggX5_sweep_X5_handsIn
set_option maxRecDepth 20000 in
theorem ggX5_sweep_X5_daysOn : GoodIn wsX5_sweep wsX5_daysOn := goodIn_r _ [25, 26, 27, 6, 28, 29, 30, 31, 32, 33, 34, 35, 36, 37, 38, 39, 40, 41, 42, 43, 44, 45, 46, 47, 48, 49] (by decide +kernel) (by decide +kernel)
set_option maxRecDepth 20000 in
theorem gX5_sweep_X5_daysOn : GoodIn wsX5_sweep (va_wsS RX5 73 yX5_daysOn wsX5_daysOn) := goodIn_app (goodIn_of _ (by decide +kernel)) ggX5_sweep_X5_daysOn
theorem dX5_sweep_0 : decode cX5_sweep 0 = .ok (.iload_n 1, 1) := by decide +kernel
theorem dX5_sweep_1 : decode cX5_sweep 1 = .ok (.iconst 1, 1) := by decide +kernel
theorem dX5_sweep_2 : decode cX5_sweep 2 = .ok (.bipush 30, 2) := by decide +kernel
theorem dX5_sweep_4 : decode cX5_sweep 4 = .ok (.invokestatic 128, 3) := by decide +kernel
theorem dX5_sweep_7 : decode cX5_sweep 7 = .ok (.istore_n 3, 1) := by decide +kernel
theorem dX5_sweep_8 : decode cX5_sweep 8 = .ok (.iload_n 3, 1) := by decide +kernel
theorem dX5_sweep_9 : decode cX5_sweep 9 = .ok (.ifCond .ne 15, 3) := by decide +kernel
theorem dX5_sweep_12 : decode cX5_sweep 12 = .ok (.iload_n 2, 1) := by decide +kernel
theorem dX5_sweep_13 : decode cX5_sweep 13 = .ok (.iconst 0, 1) := by decide +kernel
theorem dX5_sweep_14 : decode cX5_sweep 14 = .ok (.iconst 1, 1) := by decide +kernel
theorem dX5_sweep_15 : decode cX5_sweep 15 = .ok (.invokestatic 41, 3) := by decide +kernel
theorem dX5_sweep_18 : decode cX5_sweep 18 = .ok (.ifCond .ne 6, 3) := by decide +kernel
theorem dX5_sweep_21 : decode cX5_sweep 21 = .ok (.bipush (-2), 2) := by decide +kernel
theorem dX5_sweep_23 : decode cX5_sweep 23 = .ok (.istore_n 3, 1) := by decide +kernel
theorem dX5_sweep_24 : decode cX5_sweep 24 = .ok (.iload_n 3, 1) := by decide +kernel
theorem dX5_sweep_25 : decode cX5_sweep 25 = .ok (.ifCond .eq 9, 3) := by decide +kernel
theorem dX5_sweep_28 : decode cX5_sweep 28 = .ok (.aload_n 0, 1) := by decide +kernel
theorem dX5_sweep_29 : decode cX5_sweep 29 = .ok (.iload_n 3, 1) := by decide +kernel
theorem dX5_sweep_30 : decode cX5_sweep 30 = .ok (.invokevirtual 35, 3) := by decide +kernel
theorem dX5_sweep_33 : decode cX5_sweep 33 = .ok (.ireturn, 1) := by decide +kernel
theorem dX5_sweep_34 : decode cX5_sweep 34 = .ok (.aload_n 0, 1) := by decide +kernel
theorem dX5_sweep_35 : decode cX5_sweep 35 = .ok (.iload_n 1, 1) := by decide +kernel
theorem dX5_sweep_36 : decode cX5_sweep 36 = .ok (.invokevirtual 132, 3) := by decide +kernel
theorem dX5_sweep_39 : decode cX5_sweep 39 = .ok (.aload_n 0, 1) := by decide +kernel
theorem dX5_sweep_40 : decode cX5_sweep 40 = .ok (.getfield 13, 3) := by decide +kernel
theorem dX5_sweep_43 : decode cX5_sweep 43 = .ok (.iconst 5, 1) := by decide +kernel
theorem dX5_sweep_44 : decode cX5_sweep 44 = .ok (.invokestatic 76, 3) := by decide +kernel
theorem dX5_sweep_47 : decode cX5_sweep 47 = .ok (.istore 4, 2) := by decide +kernel
theorem dX5_sweep_49 : decode cX5_sweep 49 = .ok (.bipush (-9), 2) := by decide +kernel
theorem dX5_sweep_51 : decode cX5_sweep 51 = .ok (.istore 5, 2) := by decide +kernel
theorem dX5_sweep_53 : decode cX5_sweep 53 = .ok (.ldc 34, 2) := by decide +kernel
theorem dX5_sweep_55 : decode cX5_sweep 55 = .ok (.istore 6, 2) := by decide +kernel
theorem dX5_sweep_57 : decode cX5_sweep 57 = .ok (.iconst 0, 1) := by decide +kernel
theorem dX5_sweep_58 : decode cX5_sweep 58 = .ok (.istore 7, 2) := by decide +kernel
theorem dX5_sweep_60 : decode cX5_sweep 60 = .ok (.iload 7, 2) := by decide +kernel
theorem dX5_sweep_62 : decode cX5_sweep 62 = .ok (.aload_n 0, 1) := by decide +kernel
theorem dX5_sweep_63 : decode cX5_sweep 63 = .ok (.getfield 9, 3) := by decide +kernel
theorem dX5_sweep_66 : decode cX5_sweep 66 = .ok (.iconst 0, 1) := by decide +kernel
theorem dX5_sweep_67 : decode cX5_sweep 67 = .ok (.iaload, 1) := by decide +kernel
theorem dX5_sweep_68 : decode cX5_sweep 68 = .ok (.if_icmp .ge 85, 3) := by decide +kernel
theorem dX5_sweep_71 : decode cX5_sweep 71 = .ok (.aload_n 0, 1) := by decide +kernel
theorem dX5_sweep_72 : decode cX5_sweep 72 = .ok (.getfield 9, 3) := by decide +kernel
theorem dX5_sweep_75 : decode cX5_sweep 75 = .ok (.iload 7, 2) := by decide +kernel
theorem dX5_sweep_77 : decode cX5_sweep 77 = .ok (.iconst 2, 1) := by decide +kernel
theorem dX5_sweep_78 : decode cX5_sweep 78 = .ok (.invokestatic 45, 3) := by decide +kernel
theorem dX5_sweep_81 : decode cX5_sweep 81 = .ok (.iaload, 1) := by decide +kernel
theorem dX5_sweep_82 : decode cX5_sweep 82 = .ok (.ifCond .ne 6, 3) := by decide +kernel
theorem dX5_sweep_85 : decode cX5_sweep 85 = .ok (.goto 62, 3) := by decide +kernel
theorem dX5_sweep_88 : decode cX5_sweep 88 = .ok (.aload_n 0, 1) := by decide +kernel
theorem dX5_sweep_89 : decode cX5_sweep 89 = .ok (.getfield 9, 3) := by decide +kernel
theorem dX5_sweep_92 : decode cX5_sweep 92 = .ok (.aload_n 0, 1) := by decide +kernel
theorem dX5_sweep_93 : decode cX5_sweep 93 = .ok (.getfield 13, 3) := by decide +kernel
theorem dX5_sweep_96 : decode cX5_sweep 96 = .ok (.invokestatic 118, 3) := by decide +kernel
theorem dX5_sweep_99 : decode cX5_sweep 99 = .ok (.aload_n 0, 1) := by decide +kernel
theorem dX5_sweep_100 : decode cX5_sweep 100 = .ok (.getfield 13, 3) := by decide +kernel
theorem dX5_sweep_103 : decode cX5_sweep 103 = .ok (.iload 7, 2) := by decide +kernel
theorem dX5_sweep_105 : decode cX5_sweep 105 = .ok (.invokestatic 112, 3) := by decide +kernel
theorem dX5_sweep_108 : decode cX5_sweep 108 = .ok (.aload_n 0, 1) := by decide +kernel
theorem dX5_sweep_109 : decode cX5_sweep 109 = .ok (.getfield 13, 3) := by decide +kernel
theorem dX5_sweep_112 : decode cX5_sweep 112 = .ok (.iload_n 1, 1) := by decide +kernel
theorem dX5_sweep_113 : decode cX5_sweep 113 = .ok (.invokestatic 73, 3) := by decide +kernel
theorem dX5_sweep_116 : decode cX5_sweep 116 = .ok (.aload_n 0, 1) := by decide +kernel
theorem dX5_sweep_117 : decode cX5_sweep 117 = .ok (.getfield 13, 3) := by decide +kernel
theorem dX5_sweep_120 : decode cX5_sweep 120 = .ok (.iconst 5, 1) := by decide +kernel
theorem dX5_sweep_121 : decode cX5_sweep 121 = .ok (.invokestatic 76, 3) := by decide +kernel
theorem dX5_sweep_124 : decode cX5_sweep 124 = .ok (.iload 4, 2) := by decide +kernel
theorem dX5_sweep_126 : decode cX5_sweep 126 = .ok (.isub, 1) := by decide +kernel
theorem dX5_sweep_127 : decode cX5_sweep 127 = .ok (.istore 8, 2) := by decide +kernel
theorem dX5_sweep_129 : decode cX5_sweep 129 = .ok (.iload 8, 2) := by decide +kernel
theorem dX5_sweep_131 : decode cX5_sweep 131 = .ok (.iload 6, 2) := by decide +kernel
theorem dX5_sweep_133 : decode cX5_sweep 133 = .ok (.if_icmp .lt 6, 3) := by decide +kernel
theorem dX5_sweep_136 : decode cX5_sweep 136 = .ok (.goto 11, 3) := by decide +kernel
theorem dX5_sweep_139 : decode cX5_sweep 139 = .ok (.iload 7, 2) := by decide +kernel
theorem dX5_sweep_141 : decode cX5_sweep 141 = .ok (.istore 5, 2) := by decide +kernel
theorem dX5_sweep_143 : decode cX5_sweep 143 = .ok (.iload 8, 2) := by decide +kernel
theorem dX5_sweep_145 : decode cX5_sweep 145 = .ok (.istore 6, 2) := by decide +kernel
theorem dX5_sweep_147 : decode cX5_sweep 147 = .ok (.iinc 7 1, 3) := by decide +kernel
theorem dX5_sweep_150 : decode cX5_sweep 150 = .ok (.goto (-90), 3) := by decide +kernel
theorem dX5_sweep_153 : decode cX5_sweep 153 = .ok (.iload 5, 2) := by decide +kernel
theorem dX5_sweep_155 : decode cX5_sweep 155 = .ok (.ifCond .lt 7, 3) := by decide +kernel
theorem dX5_sweep_158 : decode cX5_sweep 158 = .ok (.iload_n 2, 1) := by decide +kernel
theorem dX5_sweep_159 : decode cX5_sweep 159 = .ok (.ifCond .ne 8, 3) := by decide +kernel
theorem dX5_sweep_162 : decode cX5_sweep 162 = .ok (.iload 5, 2) := by decide +kernel
theorem dX5_sweep_164 : decode cX5_sweep 164 = .ok (.goto 5, 3) := by decide +kernel
theorem dX5_sweep_167 : decode cX5_sweep 167 = .ok (.iload 6, 2) := by decide +kernel
theorem dX5_sweep_169 : decode cX5_sweep 169 = .ok (.ireturn, 1) := by decide +kernel
set_option maxRecDepth 20000 in
theorem ggX5_grain_X5_wrongBy : GoodIn wsX5_grain wsX5_wrongBy := goodIn_r _ [6] (by decide +kernel) (by decide +kernel)
set_option maxRecDepth 20000 in
theorem gX5_grain_X5_wrongBy : GoodIn wsX5_grain (va_wsS RX5 128 yX5_wrongBy wsX5_wrongBy) := goodIn_app (goodIn_of _ (by decide +kernel)) ggX5_grain_X5_wrongBy
set_option maxRecDepth 20000 in
theorem ggX5_grain_X5_no : GoodIn wsX5_grain wsX5_no := goodIn_r _ [10, 11, 49, 50, 51, 52, 53, 54, 55, 56, 57, 58, 59, 60, 61] (by decide +kernel) (by decide +kernel)
set_option maxRecDepth 20000 in
theorem gX5_grain_X5_no : GoodIn wsX5_grain (wsV RX5 35 RX5 yX5_no wsX5_no) := goodIn_app (goodIn_of _ (by decide +kernel)) ggX5_grain_X5_no
set_option maxRecDepth 20000 in
theorem ggX5_grain_X5_copies : GoodIn wsX5_grain wsX5_copies := goodIn_r _ [14] (by decide +kernel) (by decide +kernel)
set_option maxRecDepth 20000 in
theorem gX5_grain_X5_copies : GoodIn wsX5_grain (va_wsS RX5 118 yX5_copies wsX5_copies) := goodIn_app (goodIn_of _ (by decide +kernel)) ggX5_grain_X5_copies
set_option maxRecDepth 20000 in
theorem ggX5_grain_X5_throughBehind : GoodIn wsX5_grain wsX5_throughBehind := goodIn_r _ [18, 2, 1, 19, 20, 5, 21, 22, 23, 24, 25, 26, 27, 28, 29, 30, 31, 32, 33, 34, 35, 36, 37, 38, 39, 40, 41, 42, 43, 44, 45, 46, 47, 48, 49, 50, 51, 52, 53, 54, 55, 56, 57, 58, 59, 60, 61] (by decide +kernel) (by decide +kernel)
set_option maxRecDepth 20000 in
theorem gX5_grain_X5_throughBehind : GoodIn wsX5_grain (wsV RX5 160 RX5 yX5_throughBehind wsX5_throughBehind) := goodIn_app (goodIn_of _ (by decide +kernel)) ggX5_grain_X5_throughBehind
set_option maxRecDepth 20000 in
theorem ggX5_grain_X5_of : GoodIn wsX5_grain wsX5_of := goodIn_r _ [27] (by decide +kernel) (by decide +kernel)
set_option maxRecDepth 20000 in
theorem gX5_grain_X5_of : GoodIn wsX5_grain (va_wsS RX5 45 yX5_of wsX5_of) := goodIn_app (goodIn_of _ (by decide +kernel)) ggX5_grain_X5_of
set_option maxRecDepth 20000 in
theorem ggX5_grain_X5_least : GoodIn wsX5_grain wsX5_least := goodIn_r _ [36] (by decide +kernel) (by decide +kernel)
set_option maxRecDepth 20000 in
theorem gX5_grain_X5_least : GoodIn wsX5_grain (va_wsS RX5 53 yX5_least wsX5_least) := goodIn_app (goodIn_of _ (by decide +kernel)) ggX5_grain_X5_least
theorem dX5_grain_0 : decode cX5_grain 0 = .ok (.iload_n 1, 1) := by decide +kernel
theorem dX5_grain_1 : decode cX5_grain 1 = .ok (.iconst 1, 1) := by decide +kernel
theorem dX5_grain_2 : decode cX5_grain 2 = .ok (.bipush 30, 2) := by decide +kernel
theorem dX5_grain_4 : decode cX5_grain 4 = .ok (.invokestatic 128, 3) := by decide +kernel
theorem dX5_grain_7 : decode cX5_grain 7 = .ok (.istore_n 2, 1) := by decide +kernel
theorem dX5_grain_8 : decode cX5_grain 8 = .ok (.iload_n 2, 1) := by decide +kernel
theorem dX5_grain_9 : decode cX5_grain 9 = .ok (.ifCond .eq 9, 3) := by decide +kernel
theorem dX5_grain_12 : decode cX5_grain 12 = .ok (.aload_n 0, 1) := by decide +kernel
theorem dX5_grain_13 : decode cX5_grain 13 = .ok (.iload_n 2, 1) := by decide +kernel
theorem dX5_grain_14 : decode cX5_grain 14 = .ok (.invokevirtual 35, 3) := by decide +kernel
theorem dX5_grain_17 : decode cX5_grain 17 = .ok (.ireturn, 1) := by decide +kernel
theorem dX5_grain_18 : decode cX5_grain 18 = .ok (.aload_n 0, 1) := by decide +kernel
theorem dX5_grain_19 : decode cX5_grain 19 = .ok (.getfield 9, 3) := by decide +kernel
theorem dX5_grain_22 : decode cX5_grain 22 = .ok (.aload_n 0, 1) := by decide +kernel
theorem dX5_grain_23 : decode cX5_grain 23 = .ok (.getfield 13, 3) := by decide +kernel
theorem dX5_grain_26 : decode cX5_grain 26 = .ok (.invokestatic 118, 3) := by decide +kernel
theorem dX5_grain_29 : decode cX5_grain 29 = .ok (.aload_n 0, 1) := by decide +kernel
theorem dX5_grain_30 : decode cX5_grain 30 = .ok (.iload_n 1, 1) := by decide +kernel
theorem dX5_grain_31 : decode cX5_grain 31 = .ok (.invokevirtual 160, 3) := by decide +kernel
theorem dX5_grain_34 : decode cX5_grain 34 = .ok (.istore_n 3, 1) := by decide +kernel
theorem dX5_grain_35 : decode cX5_grain 35 = .ok (.bipush (-9), 2) := by decide +kernel
theorem dX5_grain_37 : decode cX5_grain 37 = .ok (.istore 4, 2) := by decide +kernel
theorem dX5_grain_39 : decode cX5_grain 39 = .ok (.iconst 0, 1) := by decide +kernel
theorem dX5_grain_40 : decode cX5_grain 40 = .ok (.istore 5, 2) := by decide +kernel
theorem dX5_grain_42 : decode cX5_grain 42 = .ok (.iload 5, 2) := by decide +kernel
theorem dX5_grain_44 : decode cX5_grain 44 = .ok (.aload_n 0, 1) := by decide +kernel
theorem dX5_grain_45 : decode cX5_grain 45 = .ok (.getfield 9, 3) := by decide +kernel
theorem dX5_grain_48 : decode cX5_grain 48 = .ok (.iconst 0, 1) := by decide +kernel
theorem dX5_grain_49 : decode cX5_grain 49 = .ok (.iaload, 1) := by decide +kernel
theorem dX5_grain_50 : decode cX5_grain 50 = .ok (.if_icmp .ge 72, 3) := by decide +kernel
theorem dX5_grain_53 : decode cX5_grain 53 = .ok (.aload_n 0, 1) := by decide +kernel
theorem dX5_grain_54 : decode cX5_grain 54 = .ok (.getfield 9, 3) := by decide +kernel
theorem dX5_grain_57 : decode cX5_grain 57 = .ok (.aload_n 0, 1) := by decide +kernel
theorem dX5_grain_58 : decode cX5_grain 58 = .ok (.getfield 13, 3) := by decide +kernel
theorem dX5_grain_61 : decode cX5_grain 61 = .ok (.invokestatic 118, 3) := by decide +kernel
theorem dX5_grain_64 : decode cX5_grain 64 = .ok (.aload_n 0, 1) := by decide +kernel
theorem dX5_grain_65 : decode cX5_grain 65 = .ok (.getfield 13, 3) := by decide +kernel
theorem dX5_grain_68 : decode cX5_grain 68 = .ok (.iload 5, 2) := by decide +kernel
theorem dX5_grain_70 : decode cX5_grain 70 = .ok (.iconst 2, 1) := by decide +kernel
theorem dX5_grain_71 : decode cX5_grain 71 = .ok (.invokestatic 45, 3) := by decide +kernel
theorem dX5_grain_74 : decode cX5_grain 74 = .ok (.bipush 99, 2) := by decide +kernel
theorem dX5_grain_76 : decode cX5_grain 76 = .ok (.aload_n 0, 1) := by decide +kernel
theorem dX5_grain_77 : decode cX5_grain 77 = .ok (.getfield 13, 3) := by decide +kernel
theorem dX5_grain_80 : decode cX5_grain 80 = .ok (.iload 5, 2) := by decide +kernel
theorem dX5_grain_82 : decode cX5_grain 82 = .ok (.iconst 2, 1) := by decide +kernel
theorem dX5_grain_83 : decode cX5_grain 83 = .ok (.invokestatic 45, 3) := by decide +kernel
theorem dX5_grain_86 : decode cX5_grain 86 = .ok (.iaload, 1) := by decide +kernel
theorem dX5_grain_87 : decode cX5_grain 87 = .ok (.iconst 1, 1) := by decide +kernel
theorem dX5_grain_88 : decode cX5_grain 88 = .ok (.iadd, 1) := by decide +kernel
theorem dX5_grain_89 : decode cX5_grain 89 = .ok (.invokestatic 53, 3) := by decide +kernel
theorem dX5_grain_92 : decode cX5_grain 92 = .ok (.iastore, 1) := by decide +kernel
theorem dX5_grain_93 : decode cX5_grain 93 = .ok (.aload_n 0, 1) := by decide +kernel
theorem dX5_grain_94 : decode cX5_grain 94 = .ok (.iload_n 1, 1) := by decide +kernel
theorem dX5_grain_95 : decode cX5_grain 95 = .ok (.invokevirtual 160, 3) := by decide +kernel
theorem dX5_grain_98 : decode cX5_grain 98 = .ok (.istore 6, 2) := by decide +kernel
theorem dX5_grain_100 : decode cX5_grain 100 = .ok (.iload 6, 2) := by decide +kernel
theorem dX5_grain_102 : decode cX5_grain 102 = .ok (.iload_n 3, 1) := by decide +kernel
theorem dX5_grain_103 : decode cX5_grain 103 = .ok (.if_icmp .gt 6, 3) := by decide +kernel
theorem dX5_grain_106 : decode cX5_grain 106 = .ok (.goto 10, 3) := by decide +kernel
theorem dX5_grain_109 : decode cX5_grain 109 = .ok (.iload 5, 2) := by decide +kernel
theorem dX5_grain_111 : decode cX5_grain 111 = .ok (.istore 4, 2) := by decide +kernel
theorem dX5_grain_113 : decode cX5_grain 113 = .ok (.iload 6, 2) := by decide +kernel
theorem dX5_grain_115 : decode cX5_grain 115 = .ok (.istore_n 3, 1) := by decide +kernel
theorem dX5_grain_116 : decode cX5_grain 116 = .ok (.iinc 5 1, 3) := by decide +kernel
theorem dX5_grain_119 : decode cX5_grain 119 = .ok (.goto (-77), 3) := by decide +kernel
theorem dX5_grain_122 : decode cX5_grain 122 = .ok (.iload 4, 2) := by decide +kernel
theorem dX5_grain_124 : decode cX5_grain 124 = .ok (.ireturn, 1) := by decide +kernel
set_option maxRecDepth 20000 in
theorem ggX5_shares_X5_isIn : GoodIn wsX5_shares wsX5_isIn := goodIn_r _ [5] (by decide +kernel) (by decide +kernel)
set_option maxRecDepth 20000 in
theorem gX5_shares_X5_isIn : GoodIn wsX5_shares (va_wsS RX5 41 yX5_isIn wsX5_isIn) := goodIn_app (goodIn_of _ (by decide +kernel)) ggX5_shares_X5_isIn
set_option maxRecDepth 20000 in
theorem ggX5_shares_X5_no : GoodIn wsX5_shares wsX5_no := goodIn_r _ [9, 10, 11, 12, 13, 14, 15, 16, 17, 18, 19, 20, 21, 22, 23] (by decide +kernel) (by decide +kernel)
set_option maxRecDepth 20000 in
theorem gX5_shares_X5_no : GoodIn wsX5_shares (wsV RX5 35 RX5 yX5_no wsX5_no) := goodIn_app (goodIn_of _ (by decide +kernel)) ggX5_shares_X5_no
theorem dX5_shares_0 : decode cX5_shares 0 = .ok (.iload_n 1, 1) := by decide +kernel
theorem dX5_shares_1 : decode cX5_shares 1 = .ok (.iconst 0, 1) := by decide +kernel
theorem dX5_shares_2 : decode cX5_shares 2 = .ok (.iconst 1, 1) := by decide +kernel
theorem dX5_shares_3 : decode cX5_shares 3 = .ok (.invokestatic 41, 3) := by decide +kernel
theorem dX5_shares_6 : decode cX5_shares 6 = .ok (.ifCond .ne 10, 3) := by decide +kernel
theorem dX5_shares_9 : decode cX5_shares 9 = .ok (.aload_n 0, 1) := by decide +kernel
theorem dX5_shares_10 : decode cX5_shares 10 = .ok (.bipush (-2), 2) := by decide +kernel
theorem dX5_shares_12 : decode cX5_shares 12 = .ok (.invokevirtual 35, 3) := by decide +kernel
theorem dX5_shares_15 : decode cX5_shares 15 = .ok (.ireturn, 1) := by decide +kernel
theorem dX5_shares_16 : decode cX5_shares 16 = .ok (.aload_n 0, 1) := by decide +kernel
theorem dX5_shares_17 : decode cX5_shares 17 = .ok (.getfield 9, 3) := by decide +kernel
theorem dX5_shares_20 : decode cX5_shares 20 = .ok (.iconst 0, 1) := by decide +kernel
theorem dX5_shares_21 : decode cX5_shares 21 = .ok (.iaload, 1) := by decide +kernel
theorem dX5_shares_22 : decode cX5_shares 22 = .ok (.istore_n 2, 1) := by decide +kernel
theorem dX5_shares_23 : decode cX5_shares 23 = .ok (.iload_n 2, 1) := by decide +kernel
theorem dX5_shares_24 : decode cX5_shares 24 = .ok (.ifCond .ne 20, 3) := by decide +kernel
theorem dX5_shares_27 : decode cX5_shares 27 = .ok (.iload_n 1, 1) := by decide +kernel
theorem dX5_shares_28 : decode cX5_shares 28 = .ok (.ifCond .ne 7, 3) := by decide +kernel
theorem dX5_shares_31 : decode cX5_shares 31 = .ok (.iconst 0, 1) := by decide +kernel
theorem dX5_shares_32 : decode cX5_shares 32 = .ok (.goto 35, 3) := by decide +kernel
theorem dX5_shares_35 : decode cX5_shares 35 = .ok (.aload_n 0, 1) := by decide +kernel
theorem dX5_shares_36 : decode cX5_shares 36 = .ok (.getfield 9, 3) := by decide +kernel
theorem dX5_shares_39 : decode cX5_shares 39 = .ok (.iconst 2, 1) := by decide +kernel
theorem dX5_shares_40 : decode cX5_shares 40 = .ok (.iaload, 1) := by decide +kernel
theorem dX5_shares_41 : decode cX5_shares 41 = .ok (.goto 26, 3) := by decide +kernel
theorem dX5_shares_44 : decode cX5_shares 44 = .ok (.iload_n 1, 1) := by decide +kernel
theorem dX5_shares_45 : decode cX5_shares 45 = .ok (.ifCond .ne 14, 3) := by decide +kernel
theorem dX5_shares_48 : decode cX5_shares 48 = .ok (.aload_n 0, 1) := by decide +kernel
theorem dX5_shares_49 : decode cX5_shares 49 = .ok (.getfield 9, 3) := by decide +kernel
theorem dX5_shares_52 : decode cX5_shares 52 = .ok (.iconst 2, 1) := by decide +kernel
theorem dX5_shares_53 : decode cX5_shares 53 = .ok (.iaload, 1) := by decide +kernel
theorem dX5_shares_54 : decode cX5_shares 54 = .ok (.iload_n 2, 1) := by decide +kernel
theorem dX5_shares_55 : decode cX5_shares 55 = .ok (.idiv, 1) := by decide +kernel
theorem dX5_shares_56 : decode cX5_shares 56 = .ok (.goto 11, 3) := by decide +kernel
theorem dX5_shares_59 : decode cX5_shares 59 = .ok (.aload_n 0, 1) := by decide +kernel
theorem dX5_shares_60 : decode cX5_shares 60 = .ok (.getfield 9, 3) := by decide +kernel
theorem dX5_shares_63 : decode cX5_shares 63 = .ok (.iconst 2, 1) := by decide +kernel
theorem dX5_shares_64 : decode cX5_shares 64 = .ok (.iaload, 1) := by decide +kernel
theorem dX5_shares_65 : decode cX5_shares 65 = .ok (.iload_n 2, 1) := by decide +kernel
theorem dX5_shares_66 : decode cX5_shares 66 = .ok (.irem, 1) := by decide +kernel
theorem dX5_shares_67 : decode cX5_shares 67 = .ok (.ireturn, 1) := by decide +kernel
set_option maxRecDepth 20000 in
theorem ggX5_richest_X5_of : GoodIn wsX5_richest wsX5_of := goodIn_r _ [5] (by decide +kernel) (by decide +kernel)
set_option maxRecDepth 20000 in
theorem gX5_richest_X5_of : GoodIn wsX5_richest (va_wsS RX5 45 yX5_of wsX5_of) := goodIn_app (goodIn_of _ (by decide +kernel)) ggX5_richest_X5_of
theorem dX5_richest_0 : decode cX5_richest 0 = .ok (.bipush (-9), 2) := by decide +kernel
theorem dX5_richest_2 : decode cX5_richest 2 = .ok (.istore_n 1, 1) := by decide +kernel
theorem dX5_richest_3 : decode cX5_richest 3 = .ok (.iconst 0, 1) := by decide +kernel
theorem dX5_richest_4 : decode cX5_richest 4 = .ok (.istore_n 2, 1) := by decide +kernel
theorem dX5_richest_5 : decode cX5_richest 5 = .ok (.iload_n 2, 1) := by decide +kernel
theorem dX5_richest_6 : decode cX5_richest 6 = .ok (.aload_n 0, 1) := by decide +kernel
theorem dX5_richest_7 : decode cX5_richest 7 = .ok (.getfield 9, 3) := by decide +kernel
theorem dX5_richest_10 : decode cX5_richest 10 = .ok (.iconst 0, 1) := by decide +kernel
theorem dX5_richest_11 : decode cX5_richest 11 = .ok (.iaload, 1) := by decide +kernel
theorem dX5_richest_12 : decode cX5_richest 12 = .ok (.if_icmp .ge 38, 3) := by decide +kernel
theorem dX5_richest_15 : decode cX5_richest 15 = .ok (.iload_n 1, 1) := by decide +kernel
theorem dX5_richest_16 : decode cX5_richest 16 = .ok (.ifCond .lt 26, 3) := by decide +kernel
theorem dX5_richest_19 : decode cX5_richest 19 = .ok (.aload_n 0, 1) := by decide +kernel
theorem dX5_richest_20 : decode cX5_richest 20 = .ok (.getfield 9, 3) := by decide +kernel
theorem dX5_richest_23 : decode cX5_richest 23 = .ok (.iload_n 2, 1) := by decide +kernel
theorem dX5_richest_24 : decode cX5_richest 24 = .ok (.iconst 2, 1) := by decide +kernel
theorem dX5_richest_25 : decode cX5_richest 25 = .ok (.invokestatic 45, 3) := by decide +kernel
theorem dX5_richest_28 : decode cX5_richest 28 = .ok (.iaload, 1) := by decide +kernel
theorem dX5_richest_29 : decode cX5_richest 29 = .ok (.aload_n 0, 1) := by decide +kernel
theorem dX5_richest_30 : decode cX5_richest 30 = .ok (.getfield 9, 3) := by decide +kernel
theorem dX5_richest_33 : decode cX5_richest 33 = .ok (.iload_n 1, 1) := by decide +kernel
theorem dX5_richest_34 : decode cX5_richest 34 = .ok (.iconst 2, 1) := by decide +kernel
theorem dX5_richest_35 : decode cX5_richest 35 = .ok (.invokestatic 45, 3) := by decide +kernel
theorem dX5_richest_38 : decode cX5_richest 38 = .ok (.iaload, 1) := by decide +kernel
theorem dX5_richest_39 : decode cX5_richest 39 = .ok (.if_icmp .le 5, 3) := by decide +kernel
theorem dX5_richest_42 : decode cX5_richest 42 = .ok (.iload_n 2, 1) := by decide +kernel
theorem dX5_richest_43 : decode cX5_richest 43 = .ok (.istore_n 1, 1) := by decide +kernel
theorem dX5_richest_44 : decode cX5_richest 44 = .ok (.iinc 2 1, 3) := by decide +kernel
theorem dX5_richest_47 : decode cX5_richest 47 = .ok (.goto (-42), 3) := by decide +kernel
theorem dX5_richest_50 : decode cX5_richest 50 = .ok (.iload_n 1, 1) := by decide +kernel
theorem dX5_richest_51 : decode cX5_richest 51 = .ok (.ireturn, 1) := by decide +kernel
set_option maxRecDepth 20000 in
theorem ggX5_trusted_X5_isOne : GoodIn wsX5_trusted wsX5_isOne := goodIn_r _ [6, 1, 7, 8, 5, 9, 23, 24, 25, 26, 27, 28, 29, 30, 31, 32, 33, 34, 35] (by decide +kernel) (by decide +kernel)
set_option maxRecDepth 20000 in
theorem gX5_trusted_X5_isOne : GoodIn wsX5_trusted (wsV RX5 104 RX5 yX5_isOne wsX5_isOne) := goodIn_app (goodIn_of _ (by decide +kernel)) ggX5_trusted_X5_isOne
set_option maxRecDepth 20000 in
theorem ggX5_trusted_X5_of : GoodIn wsX5_trusted wsX5_of := goodIn_r _ [12] (by decide +kernel) (by decide +kernel)
set_option maxRecDepth 20000 in
theorem gX5_trusted_X5_of : GoodIn wsX5_trusted (va_wsS RX5 45 yX5_of wsX5_of) := goodIn_app (goodIn_of _ (by decide +kernel)) ggX5_trusted_X5_of
set_option maxRecDepth 20000 in
theorem ggX5_trusted_X5_noFar : GoodIn wsX5_trusted wsX5_noFar := goodIn_r _ [16, 17, 18, 19, 20, 5, 21, 22, 23, 24, 25, 26, 27, 28, 29, 30, 31, 32, 33, 34, 35] (by decide +kernel) (by decide +kernel)
set_option maxRecDepth 20000 in
theorem gX5_trusted_X5_noFar : GoodIn wsX5_trusted (wsV RX5 172 RX5 yX5_noFar wsX5_noFar) := goodIn_app (goodIn_of _ (by decide +kernel)) ggX5_trusted_X5_noFar
theorem dX5_trusted_0 : decode cX5_trusted 0 = .ok (.aload_n 0, 1) := by decide +kernel
theorem dX5_trusted_1 : decode cX5_trusted 1 = .ok (.iload_n 1, 1) := by decide +kernel
theorem dX5_trusted_2 : decode cX5_trusted 2 = .ok (.invokevirtual 104, 3) := by decide +kernel
theorem dX5_trusted_5 : decode cX5_trusted 5 = .ok (.ifCond .eq 27, 3) := by decide +kernel
theorem dX5_trusted_8 : decode cX5_trusted 8 = .ok (.aload_n 0, 1) := by decide +kernel
theorem dX5_trusted_9 : decode cX5_trusted 9 = .ok (.getfield 9, 3) := by decide +kernel
theorem dX5_trusted_12 : decode cX5_trusted 12 = .ok (.iload_n 1, 1) := by decide +kernel
theorem dX5_trusted_13 : decode cX5_trusted 13 = .ok (.iconst 4, 1) := by decide +kernel
theorem dX5_trusted_14 : decode cX5_trusted 14 = .ok (.invokestatic 45, 3) := by decide +kernel
theorem dX5_trusted_17 : decode cX5_trusted 17 = .ok (.iaload, 1) := by decide +kernel
theorem dX5_trusted_18 : decode cX5_trusted 18 = .ok (.aload_n 0, 1) := by decide +kernel
theorem dX5_trusted_19 : decode cX5_trusted 19 = .ok (.getfield 9, 3) := by decide +kernel
theorem dX5_trusted_22 : decode cX5_trusted 22 = .ok (.iload_n 1, 1) := by decide +kernel
theorem dX5_trusted_23 : decode cX5_trusted 23 = .ok (.iconst 5, 1) := by decide +kernel
theorem dX5_trusted_24 : decode cX5_trusted 24 = .ok (.invokestatic 45, 3) := by decide +kernel
theorem dX5_trusted_27 : decode cX5_trusted 27 = .ok (.iaload, 1) := by decide +kernel
theorem dX5_trusted_28 : decode cX5_trusted 28 = .ok (.isub, 1) := by decide +kernel
theorem dX5_trusted_29 : decode cX5_trusted 29 = .ok (.goto 8, 3) := by decide +kernel
theorem dX5_trusted_32 : decode cX5_trusted 32 = .ok (.aload_n 0, 1) := by decide +kernel
theorem dX5_trusted_33 : decode cX5_trusted 33 = .ok (.iconst (-1), 1) := by decide +kernel
theorem dX5_trusted_34 : decode cX5_trusted 34 = .ok (.invokevirtual 172, 3) := by decide +kernel
theorem dX5_trusted_37 : decode cX5_trusted 37 = .ok (.ireturn, 1) := by decide +kernel
set_option maxRecDepth 20000 in
theorem ggX5_worth_X5_allOf : GoodIn wsX5_worth wsX5_allOf := goodIn_r _ [5, 6, 7, 4, 8] (by decide +kernel) (by decide +kernel)
set_option maxRecDepth 20000 in
theorem gX5_worth_X5_allOf : GoodIn wsX5_worth (va_wsS RX5 76 yX5_allOf wsX5_allOf) := goodIn_app (goodIn_of _ (by decide +kernel)) ggX5_worth_X5_allOf
theorem dX5_worth_0 : decode cX5_worth 0 = .ok (.aload_n 0, 1) := by decide +kernel
theorem dX5_worth_1 : decode cX5_worth 1 = .ok (.getfield 9, 3) := by decide +kernel
theorem dX5_worth_4 : decode cX5_worth 4 = .ok (.iconst 4, 1) := by decide +kernel
theorem dX5_worth_5 : decode cX5_worth 5 = .ok (.invokestatic 76, 3) := by decide +kernel
theorem dX5_worth_8 : decode cX5_worth 8 = .ok (.aload_n 0, 1) := by decide +kernel
theorem dX5_worth_9 : decode cX5_worth 9 = .ok (.getfield 9, 3) := by decide +kernel
theorem dX5_worth_12 : decode cX5_worth 12 = .ok (.iconst 5, 1) := by decide +kernel
theorem dX5_worth_13 : decode cX5_worth 13 = .ok (.invokestatic 76, 3) := by decide +kernel
theorem dX5_worth_16 : decode cX5_worth 16 = .ok (.isub, 1) := by decide +kernel
theorem dX5_worth_17 : decode cX5_worth 17 = .ok (.ireturn, 1) := by decide +kernel
set_option maxRecDepth 20000 in
theorem ggX5_ownBy_X5_copies : GoodIn wsX5_ownBy wsX5_copies := goodIn_r _ [6] (by decide +kernel) (by decide +kernel)
set_option maxRecDepth 20000 in
theorem gX5_ownBy_X5_copies : GoodIn wsX5_ownBy (va_wsS RX5 118 yX5_copies wsX5_copies) := goodIn_app (goodIn_of _ (by decide +kernel)) ggX5_ownBy_X5_copies
set_option maxRecDepth 20000 in
theorem ggX5_ownBy_X5_signs : GoodIn wsX5_ownBy wsX5_signs := goodIn_r _ [10, 2, 11, 12, 5, 13, 14, 15, 16, 17, 18, 19, 20, 21, 22, 48, 49, 50, 51, 52, 53, 54, 55, 56, 57, 58, 59, 60] (by decide +kernel) (by decide +kernel)
set_option maxRecDepth 20000 in
theorem gX5_ownBy_X5_signs : GoodIn wsX5_ownBy (wsV RX5 157 RX5 yX5_signs wsX5_signs) := goodIn_app (goodIn_of _ (by decide +kernel)) ggX5_ownBy_X5_signs
set_option maxRecDepth 20000 in
theorem ggX5_ownBy_X5_daysOn : GoodIn wsX5_ownBy wsX5_daysOn := goodIn_r _ [25, 26, 27, 5, 28, 17, 18, 19, 29, 30, 31, 14, 15, 16, 32, 33, 34, 35, 36, 37, 38, 39, 40, 41, 42, 43] (by decide +kernel) (by decide +kernel)
set_option maxRecDepth 20000 in
theorem gX5_ownBy_X5_daysOn : GoodIn wsX5_ownBy (va_wsS RX5 73 yX5_daysOn wsX5_daysOn) := goodIn_app (goodIn_of _ (by decide +kernel)) ggX5_ownBy_X5_daysOn
set_option maxRecDepth 20000 in
theorem ggX5_ownBy_X5_throughOf : GoodIn wsX5_ownBy wsX5_throughOf := goodIn_r _ [47, 1, 17, 18, 5, 19, 48, 49, 50, 51, 52, 53, 54, 55, 56, 57, 58, 59, 60] (by decide +kernel) (by decide +kernel)
set_option maxRecDepth 20000 in
theorem gX5_ownBy_X5_throughOf : GoodIn wsX5_ownBy (wsV RX5 169 RX5 yX5_throughOf wsX5_throughOf) := goodIn_app (goodIn_of _ (by decide +kernel)) ggX5_ownBy_X5_throughOf
theorem dX5_ownBy_0 : decode cX5_ownBy 0 = .ok (.aload_n 0, 1) := by decide +kernel
theorem dX5_ownBy_1 : decode cX5_ownBy 1 = .ok (.getfield 9, 3) := by decide +kernel
theorem dX5_ownBy_4 : decode cX5_ownBy 4 = .ok (.aload_n 0, 1) := by decide +kernel
theorem dX5_ownBy_5 : decode cX5_ownBy 5 = .ok (.getfield 13, 3) := by decide +kernel
theorem dX5_ownBy_8 : decode cX5_ownBy 8 = .ok (.invokestatic 118, 3) := by decide +kernel
theorem dX5_ownBy_11 : decode cX5_ownBy 11 = .ok (.iload_n 3, 1) := by decide +kernel
theorem dX5_ownBy_12 : decode cX5_ownBy 12 = .ok (.iconst 1, 1) := by decide +kernel
theorem dX5_ownBy_13 : decode cX5_ownBy 13 = .ok (.if_icmp .ne 11, 3) := by decide +kernel
theorem dX5_ownBy_16 : decode cX5_ownBy 16 = .ok (.aload_n 0, 1) := by decide +kernel
theorem dX5_ownBy_17 : decode cX5_ownBy 17 = .ok (.iload_n 2, 1) := by decide +kernel
theorem dX5_ownBy_18 : decode cX5_ownBy 18 = .ok (.invokevirtual 157, 3) := by decide +kernel
theorem dX5_ownBy_21 : decode cX5_ownBy 21 = .ok (.goto 4, 3) := by decide +kernel
theorem dX5_ownBy_24 : decode cX5_ownBy 24 = .ok (.iconst 0, 1) := by decide +kernel
theorem dX5_ownBy_25 : decode cX5_ownBy 25 = .ok (.istore 7, 2) := by decide +kernel
theorem dX5_ownBy_27 : decode cX5_ownBy 27 = .ok (.iload 5, 2) := by decide +kernel
theorem dX5_ownBy_29 : decode cX5_ownBy 29 = .ok (.iconst 1, 1) := by decide +kernel
theorem dX5_ownBy_30 : decode cX5_ownBy 30 = .ok (.if_icmp .ne 12, 3) := by decide +kernel
theorem dX5_ownBy_33 : decode cX5_ownBy 33 = .ok (.aload_n 0, 1) := by decide +kernel
theorem dX5_ownBy_34 : decode cX5_ownBy 34 = .ok (.iload 4, 2) := by decide +kernel
theorem dX5_ownBy_36 : decode cX5_ownBy 36 = .ok (.invokevirtual 157, 3) := by decide +kernel
theorem dX5_ownBy_39 : decode cX5_ownBy 39 = .ok (.goto 4, 3) := by decide +kernel
theorem dX5_ownBy_42 : decode cX5_ownBy 42 = .ok (.iconst 0, 1) := by decide +kernel
theorem dX5_ownBy_43 : decode cX5_ownBy 43 = .ok (.istore 8, 2) := by decide +kernel
theorem dX5_ownBy_45 : decode cX5_ownBy 45 = .ok (.aload_n 0, 1) := by decide +kernel
theorem dX5_ownBy_46 : decode cX5_ownBy 46 = .ok (.getfield 13, 3) := by decide +kernel
theorem dX5_ownBy_49 : decode cX5_ownBy 49 = .ok (.iload 6, 2) := by decide +kernel
theorem dX5_ownBy_51 : decode cX5_ownBy 51 = .ok (.invokestatic 73, 3) := by decide +kernel
theorem dX5_ownBy_54 : decode cX5_ownBy 54 = .ok (.aload_n 0, 1) := by decide +kernel
theorem dX5_ownBy_55 : decode cX5_ownBy 55 = .ok (.aload_n 0, 1) := by decide +kernel
theorem dX5_ownBy_56 : decode cX5_ownBy 56 = .ok (.getfield 13, 3) := by decide +kernel
theorem dX5_ownBy_59 : decode cX5_ownBy 59 = .ok (.iload_n 1, 1) := by decide +kernel
theorem dX5_ownBy_60 : decode cX5_ownBy 60 = .ok (.invokevirtual 169, 3) := by decide +kernel
theorem dX5_ownBy_63 : decode cX5_ownBy 63 = .ok (.iload_n 1, 1) := by decide +kernel
theorem dX5_ownBy_64 : decode cX5_ownBy 64 = .ok (.iload_n 2, 1) := by decide +kernel
theorem dX5_ownBy_65 : decode cX5_ownBy 65 = .ok (.if_icmp .ne 8, 3) := by decide +kernel
theorem dX5_ownBy_68 : decode cX5_ownBy 68 = .ok (.iload 7, 2) := by decide +kernel
theorem dX5_ownBy_70 : decode cX5_ownBy 70 = .ok (.goto 5, 3) := by decide +kernel
theorem dX5_ownBy_73 : decode cX5_ownBy 73 = .ok (.iload 8, 2) := by decide +kernel
theorem dX5_ownBy_75 : decode cX5_ownBy 75 = .ok (.bipush 10, 2) := by decide +kernel
theorem dX5_ownBy_77 : decode cX5_ownBy 77 = .ok (.idiv, 1) := by decide +kernel
theorem dX5_ownBy_78 : decode cX5_ownBy 78 = .ok (.isub, 1) := by decide +kernel
theorem dX5_ownBy_79 : decode cX5_ownBy 79 = .ok (.ireturn, 1) := by decide +kernel
set_option maxRecDepth 20000 in
theorem ggX5_two_X5_isOne : GoodIn wsX5_two wsX5_isOne := goodIn_r _ [5, 6, 7, 8, 4, 9, 67, 68, 69, 70, 71, 72, 73, 74, 75, 76, 77, 78, 79] (by decide +kernel) (by decide +kernel)
set_option maxRecDepth 20000 in
theorem gX5_two_X5_isOne : GoodIn wsX5_two (wsV RX5 104 RX5 yX5_isOne wsX5_isOne) := goodIn_app (goodIn_of _ (by decide +kernel)) ggX5_two_X5_isOne
set_option maxRecDepth 20000 in
theorem ggX5_two_X5_wrongBy : GoodIn wsX5_two wsX5_wrongBy := goodIn_r _ [12] (by decide +kernel) (by decide +kernel)
set_option maxRecDepth 20000 in
theorem gX5_two_X5_wrongBy : GoodIn wsX5_two (va_wsS RX5 128 yX5_wrongBy wsX5_wrongBy) := goodIn_app (goodIn_of _ (by decide +kernel)) ggX5_two_X5_wrongBy
set_option maxRecDepth 20000 in
theorem ggX5_two_X5_no : GoodIn wsX5_two wsX5_no := goodIn_r _ [16, 17, 67, 68, 69, 70, 71, 72, 73, 74, 75, 76, 77, 78, 79] (by decide +kernel) (by decide +kernel)
set_option maxRecDepth 20000 in
theorem gX5_two_X5_no : GoodIn wsX5_two (wsV RX5 35 RX5 yX5_no wsX5_no) := goodIn_app (goodIn_of _ (by decide +kernel)) ggX5_two_X5_no
set_option maxRecDepth 20000 in
theorem ggX5_two_X5_ownBy : GoodIn wsX5_two wsX5_ownBy := goodIn_r _ [21, 6, 22, 23, 24, 4, 25, 26, 27, 28, 29, 30, 31, 32, 33, 34, 35, 36, 37, 38, 39, 40, 41, 42, 43, 44, 45, 46, 47, 48, 49, 50, 51, 52, 53, 54, 55, 56, 57, 58, 59, 60, 61, 62, 63, 64, 65, 66, 67, 68, 69, 70, 71, 72, 73, 74, 75, 76, 77, 78, 79] (by decide +kernel) (by decide +kernel)
set_option maxRecDepth 20000 in
theorem gX5_two_X5_ownBy : GoodIn wsX5_two (wsV RX5 175 RX5 yX5_ownBy wsX5_ownBy) := goodIn_app (goodIn_of _ (by decide +kernel)) ggX5_two_X5_ownBy
theorem dX5_two_0 : decode cX5_two 0 = .ok (.aload_n 0, 1) := by decide +kernel
theorem dX5_two_1 : decode cX5_two 1 = .ok (.iload_n 1, 1) := by decide +kernel
theorem dX5_two_2 : decode cX5_two 2 = .ok (.invokevirtual 104, 3) := by decide +kernel
theorem dX5_two_5 : decode cX5_two 5 = .ok (.ifCond .eq 26, 3) := by decide +kernel
theorem dX5_two_8 : decode cX5_two 8 = .ok (.aload_n 0, 1) := by decide +kernel
theorem dX5_two_9 : decode cX5_two 9 = .ok (.iload_n 2, 1) := by decide +kernel
theorem dX5_two_10 : decode cX5_two 10 = .ok (.invokevirtual 104, 3) := by decide +kernel
theorem dX5_two_13 : decode cX5_two 13 = .ok (.ifCond .eq 18, 3) := by decide +kernel
theorem dX5_two_16 : decode cX5_two 16 = .ok (.iload_n 1, 1) := by decide +kernel
theorem dX5_two_17 : decode cX5_two 17 = .ok (.iload_n 2, 1) := by decide +kernel
theorem dX5_two_18 : decode cX5_two 18 = .ok (.if_icmp .eq 13, 3) := by decide +kernel
theorem dX5_two_21 : decode cX5_two 21 = .ok (.iload_n 3, 1) := by decide +kernel
theorem dX5_two_22 : decode cX5_two 22 = .ok (.iconst 1, 1) := by decide +kernel
theorem dX5_two_23 : decode cX5_two 23 = .ok (.bipush 30, 2) := by decide +kernel
theorem dX5_two_25 : decode cX5_two 25 = .ok (.invokestatic 128, 3) := by decide +kernel
theorem dX5_two_28 : decode cX5_two 28 = .ok (.goto 4, 3) := by decide +kernel
theorem dX5_two_31 : decode cX5_two 31 = .ok (.iconst (-1), 1) := by decide +kernel
theorem dX5_two_32 : decode cX5_two 32 = .ok (.istore 4, 2) := by decide +kernel
theorem dX5_two_34 : decode cX5_two 34 = .ok (.iload 4, 2) := by decide +kernel
theorem dX5_two_36 : decode cX5_two 36 = .ok (.ifCond .eq 10, 3) := by decide +kernel
theorem dX5_two_39 : decode cX5_two 39 = .ok (.aload_n 0, 1) := by decide +kernel
theorem dX5_two_40 : decode cX5_two 40 = .ok (.iload 4, 2) := by decide +kernel
theorem dX5_two_42 : decode cX5_two 42 = .ok (.invokevirtual 35, 3) := by decide +kernel
theorem dX5_two_45 : decode cX5_two 45 = .ok (.ireturn, 1) := by decide +kernel
theorem dX5_two_46 : decode cX5_two 46 = .ok (.iconst 0, 1) := by decide +kernel
theorem dX5_two_47 : decode cX5_two 47 = .ok (.istore 5, 2) := by decide +kernel
theorem dX5_two_49 : decode cX5_two 49 = .ok (.iload 5, 2) := by decide +kernel
theorem dX5_two_51 : decode cX5_two 51 = .ok (.iconst 4, 1) := by decide +kernel
theorem dX5_two_52 : decode cX5_two 52 = .ok (.if_icmp .ge 88, 3) := by decide +kernel
theorem dX5_two_55 : decode cX5_two 55 = .ok (.iload 5, 2) := by decide +kernel
theorem dX5_two_57 : decode cX5_two 57 = .ok (.iconst 2, 1) := by decide +kernel
theorem dX5_two_58 : decode cX5_two 58 = .ok (.idiv, 1) := by decide +kernel
theorem dX5_two_59 : decode cX5_two 59 = .ok (.istore 6, 2) := by decide +kernel
theorem dX5_two_61 : decode cX5_two 61 = .ok (.iload 5, 2) := by decide +kernel
theorem dX5_two_63 : decode cX5_two 63 = .ok (.iconst 2, 1) := by decide +kernel
theorem dX5_two_64 : decode cX5_two 64 = .ok (.irem, 1) := by decide +kernel
theorem dX5_two_65 : decode cX5_two 65 = .ok (.istore 7, 2) := by decide +kernel
theorem dX5_two_67 : decode cX5_two 67 = .ok (.aload_n 0, 1) := by decide +kernel
theorem dX5_two_68 : decode cX5_two 68 = .ok (.iload_n 1, 1) := by decide +kernel
theorem dX5_two_69 : decode cX5_two 69 = .ok (.iload_n 1, 1) := by decide +kernel
theorem dX5_two_70 : decode cX5_two 70 = .ok (.iconst 1, 1) := by decide +kernel
theorem dX5_two_71 : decode cX5_two 71 = .ok (.iload 6, 2) := by decide +kernel
theorem dX5_two_73 : decode cX5_two 73 = .ok (.isub, 1) := by decide +kernel
theorem dX5_two_74 : decode cX5_two 74 = .ok (.iload_n 2, 1) := by decide +kernel
theorem dX5_two_75 : decode cX5_two 75 = .ok (.iload 7, 2) := by decide +kernel
theorem dX5_two_77 : decode cX5_two 77 = .ok (.iload_n 3, 1) := by decide +kernel
theorem dX5_two_78 : decode cX5_two 78 = .ok (.invokevirtual 175, 3) := by decide +kernel
theorem dX5_two_81 : decode cX5_two 81 = .ok (.aload_n 0, 1) := by decide +kernel
theorem dX5_two_82 : decode cX5_two 82 = .ok (.iload_n 1, 1) := by decide +kernel
theorem dX5_two_83 : decode cX5_two 83 = .ok (.iload_n 1, 1) := by decide +kernel
theorem dX5_two_84 : decode cX5_two 84 = .ok (.iload 6, 2) := by decide +kernel
theorem dX5_two_86 : decode cX5_two 86 = .ok (.iload_n 2, 1) := by decide +kernel
theorem dX5_two_87 : decode cX5_two 87 = .ok (.iload 7, 2) := by decide +kernel
theorem dX5_two_89 : decode cX5_two 89 = .ok (.iload_n 3, 1) := by decide +kernel
theorem dX5_two_90 : decode cX5_two 90 = .ok (.invokevirtual 175, 3) := by decide +kernel
theorem dX5_two_93 : decode cX5_two 93 = .ok (.if_icmp .gt 41, 3) := by decide +kernel
theorem dX5_two_96 : decode cX5_two 96 = .ok (.aload_n 0, 1) := by decide +kernel
theorem dX5_two_97 : decode cX5_two 97 = .ok (.iload_n 2, 1) := by decide +kernel
theorem dX5_two_98 : decode cX5_two 98 = .ok (.iload_n 1, 1) := by decide +kernel
theorem dX5_two_99 : decode cX5_two 99 = .ok (.iload 6, 2) := by decide +kernel
theorem dX5_two_101 : decode cX5_two 101 = .ok (.iload_n 2, 1) := by decide +kernel
theorem dX5_two_102 : decode cX5_two 102 = .ok (.iconst 1, 1) := by decide +kernel
theorem dX5_two_103 : decode cX5_two 103 = .ok (.iload 7, 2) := by decide +kernel
theorem dX5_two_105 : decode cX5_two 105 = .ok (.isub, 1) := by decide +kernel
theorem dX5_two_106 : decode cX5_two 106 = .ok (.iload_n 3, 1) := by decide +kernel
theorem dX5_two_107 : decode cX5_two 107 = .ok (.invokevirtual 175, 3) := by decide +kernel
theorem dX5_two_110 : decode cX5_two 110 = .ok (.aload_n 0, 1) := by decide +kernel
theorem dX5_two_111 : decode cX5_two 111 = .ok (.iload_n 2, 1) := by decide +kernel
theorem dX5_two_112 : decode cX5_two 112 = .ok (.iload_n 1, 1) := by decide +kernel
theorem dX5_two_113 : decode cX5_two 113 = .ok (.iload 6, 2) := by decide +kernel
theorem dX5_two_115 : decode cX5_two 115 = .ok (.iload_n 2, 1) := by decide +kernel
theorem dX5_two_116 : decode cX5_two 116 = .ok (.iload 7, 2) := by decide +kernel
theorem dX5_two_118 : decode cX5_two 118 = .ok (.iload_n 3, 1) := by decide +kernel
theorem dX5_two_119 : decode cX5_two 119 = .ok (.invokevirtual 175, 3) := by decide +kernel
theorem dX5_two_122 : decode cX5_two 122 = .ok (.if_icmp .gt 12, 3) := by decide +kernel
theorem dX5_two_125 : decode cX5_two 125 = .ok (.bipush 10, 2) := by decide +kernel
theorem dX5_two_127 : decode cX5_two 127 = .ok (.iload 6, 2) := by decide +kernel
theorem dX5_two_129 : decode cX5_two 129 = .ok (.imul, 1) := by decide +kernel
theorem dX5_two_130 : decode cX5_two 130 = .ok (.iload 7, 2) := by decide +kernel
theorem dX5_two_132 : decode cX5_two 132 = .ok (.iadd, 1) := by decide +kernel
theorem dX5_two_133 : decode cX5_two 133 = .ok (.ireturn, 1) := by decide +kernel
theorem dX5_two_134 : decode cX5_two 134 = .ok (.iinc 5 1, 3) := by decide +kernel
theorem dX5_two_137 : decode cX5_two 137 = .ok (.goto (-88), 3) := by decide +kernel
theorem dX5_two_140 : decode cX5_two 140 = .ok (.bipush (-9), 2) := by decide +kernel
theorem dX5_two_142 : decode cX5_two 142 = .ok (.ireturn, 1) := by decide +kernel
theorem dX5_gcd_0 : decode cX5_gcd 0 = .ok (.lload_n 0, 1) := by decide +kernel
theorem dX5_gcd_1 : decode cX5_gcd 1 = .ok (.lstore 4, 2) := by decide +kernel
theorem dX5_gcd_3 : decode cX5_gcd 3 = .ok (.lload_n 2, 1) := by decide +kernel
theorem dX5_gcd_4 : decode cX5_gcd 4 = .ok (.lstore 6, 2) := by decide +kernel
theorem dX5_gcd_6 : decode cX5_gcd 6 = .ok (.lload 6, 2) := by decide +kernel
theorem dX5_gcd_8 : decode cX5_gcd 8 = .ok (.lconst 0, 1) := by decide +kernel
theorem dX5_gcd_9 : decode cX5_gcd 9 = .ok (.lcmp, 1) := by decide +kernel
theorem dX5_gcd_10 : decode cX5_gcd 10 = .ok (.ifCond .eq 21, 3) := by decide +kernel
theorem dX5_gcd_13 : decode cX5_gcd 13 = .ok (.lload 4, 2) := by decide +kernel
theorem dX5_gcd_15 : decode cX5_gcd 15 = .ok (.lload 6, 2) := by decide +kernel
theorem dX5_gcd_17 : decode cX5_gcd 17 = .ok (.lrem, 1) := by decide +kernel
theorem dX5_gcd_18 : decode cX5_gcd 18 = .ok (.lstore 8, 2) := by decide +kernel
theorem dX5_gcd_20 : decode cX5_gcd 20 = .ok (.lload 6, 2) := by decide +kernel
theorem dX5_gcd_22 : decode cX5_gcd 22 = .ok (.lstore 4, 2) := by decide +kernel
theorem dX5_gcd_24 : decode cX5_gcd 24 = .ok (.lload 8, 2) := by decide +kernel
