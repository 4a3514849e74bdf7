theorem dX8_takeNumber_9 : decode cX8_takeNumber 9 = .ok (.getfield 81, 3) := by decide +kernel
theorem dX8_takeNumber_12 : decode cX8_takeNumber 12 = .ok (.iload_n 1, 1) := by decide +kernel
theorem dX8_takeNumber_13 : decode cX8_takeNumber 13 = .ok (.if_icmp .lt 11, 3) := by decide +kernel
theorem dX8_takeNumber_16 : decode cX8_takeNumber 16 = .ok (.aload_n 0, 1) := by decide +kernel
theorem dX8_takeNumber_17 : decode cX8_takeNumber 17 = .ok (.getfield 81, 3) := by decide +kernel
theorem dX8_takeNumber_20 : decode cX8_takeNumber 20 = .ok (.iload_n 2, 1) := by decide +kernel
theorem dX8_takeNumber_21 : decode cX8_takeNumber 21 = .ok (.if_icmp .le 5, 3) := by decide +kernel
theorem dX8_takeNumber_24 : decode cX8_takeNumber 24 = .ok (.iconst (-1), 1) := by decide +kernel
theorem dX8_takeNumber_25 : decode cX8_takeNumber 25 = .ok (.ireturn, 1) := by decide +kernel
theorem dX8_takeNumber_26 : decode cX8_takeNumber 26 = .ok (.aload_n 0, 1) := by decide +kernel
theorem dX8_takeNumber_27 : decode cX8_takeNumber 27 = .ok (.getfield 81, 3) := by decide +kernel
theorem dX8_takeNumber_30 : decode cX8_takeNumber 30 = .ok (.istore_n 3, 1) := by decide +kernel
theorem dX8_takeNumber_31 : decode cX8_takeNumber 31 = .ok (.aload_n 0, 1) := by decide +kernel
theorem dX8_takeNumber_32 : decode cX8_takeNumber 32 = .ok (.invokevirtual 32, 3) := by decide +kernel
theorem dX8_takeNumber_35 : decode cX8_takeNumber 35 = .ok (.iload_n 3, 1) := by decide +kernel
theorem dX8_takeNumber_36 : decode cX8_takeNumber 36 = .ok (.ireturn, 1) := by decide +kernel
set_option maxRecDepth 20000 in
theorem ggX8_takeStop_X8_advance : GoodIn wsX8_takeStop wsX8_advance := goodIn_r _ [6, 7, 8, 9, 10, 11, 12, 1, 13, 14, 15, 5, 16, 17, 18, 19, 20, 21, 22, 23, 24, 25, 26, 27, 28, 29, 30, 31, 32, 33, 34, 35, 36, 37, 38, 39, 40, 41, 42, 43, 44, 45, 46, 47, 48, 49, 50, 51, 52, 53, 54, 55, 56, 57, 58, 59, 60, 61, 62, 63, 64, 65, 66, 67, 68, 69, 70, 71, 72, 73, 74, 75, 76, 77, 78, 79, 80, 81, 82, 83, 84, 85, 86, 87, 88] (by decide +kernel) (by decide +kernel)
set_option maxRecDepth 20000 in
theorem gX8_takeStop_X8_advance : GoodIn wsX8_takeStop (wsV RX8 32 RX8 yX8_advance wsX8_advance) := goodIn_app (goodIn_of _ (by decide +kernel)) ggX8_takeStop_X8_advance
theorem dX8_takeStop_0 : decode cX8_takeStop 0 = .ok (.aload_n 0, 1) := by decide +kernel
theorem dX8_takeStop_1 : decode cX8_takeStop 1 = .ok (.getfield 39, 3) := by decide +kernel
theorem dX8_takeStop_4 : decode cX8_takeStop 4 = .ok (.iconst 3, 1) := by decide +kernel
theorem dX8_takeStop_5 : decode cX8_takeStop 5 = .ok (.if_icmp .eq 5, 3) := by decide +kernel
theorem dX8_takeStop_8 : decode cX8_takeStop 8 = .ok (.iconst 0, 1) := by decide +kernel
theorem dX8_takeStop_9 : decode cX8_takeStop 9 = .ok (.ireturn, 1) := by decide +kernel
theorem dX8_takeStop_10 : decode cX8_takeStop 10 = .ok (.aload_n 0, 1) := by decide +kernel
theorem dX8_takeStop_11 : decode cX8_takeStop 11 = .ok (.invokevirtual 32, 3) := by decide +kernel
theorem dX8_takeStop_14 : decode cX8_takeStop 14 = .ok (.iconst 1, 1) := by decide +kernel
theorem dX8_takeStop_15 : decode cX8_takeStop 15 = .ok (.ireturn, 1) := by decide +kernel
set_option maxRecDepth 20000 in
theorem ggX8_advance_X8_isLetter : GoodIn wsX8_advance wsX8_isLetter := goodIn_r _ [12, 2, 4, 77, 78, 79, 80, 81, 82, 83, 84] (by decide +kernel) (by decide +kernel)
set_option maxRecDepth 20000 in
theorem gX8_advance_X8_isLetter : GoodIn wsX8_advance (wsV RX8 101 RX8 yX8_isLetter wsX8_isLetter) := goodIn_app (goodIn_of _ (by decide +kernel)) ggX8_advance_X8_isLetter
set_option maxRecDepth 20000 in
theorem ggX8_advance_X8_wordFrom : GoodIn wsX8_advance wsX8_wordFrom := goodIn_r _ [16, 17, 18, 19, 20, 21, 22, 11, 23, 2, 4, 24, 25, 26, 27, 28, 29, 30, 31, 32, 33, 34, 35, 36, 37, 38, 39, 40, 41, 42, 43, 44, 45, 46, 47, 48, 49, 50, 51, 52, 53, 54, 55, 56, 57, 58, 59, 60, 61, 62, 63, 64, 65, 66, 67, 68, 69, 70, 71, 72, 77, 78, 79, 80, 81, 82, 83, 84] (by decide +kernel) (by decide +kernel)
set_option maxRecDepth 20000 in
theorem gX8_advance_X8_wordFrom : GoodIn wsX8_advance (wsV RX8 104 RX8 yX8_wordFrom wsX8_wordFrom) := goodIn_app (goodIn_of _ (by decide +kernel)) ggX8_advance_X8_wordFrom
set_option maxRecDepth 20000 in
theorem ggX8_advance_X8_isFigure : GoodIn wsX8_advance wsX8_isFigure := goodIn_r _ [76, 2, 4, 77, 78, 79, 80, 81, 82, 83, 84] (by decide +kernel) (by decide +kernel)
set_option maxRecDepth 20000 in
theorem gX8_advance_X8_isFigure : GoodIn wsX8_advance (wsV RX8 107 RX8 yX8_isFigure wsX8_isFigure) := goodIn_app (goodIn_of _ (by decide +kernel)) ggX8_advance_X8_isFigure
theorem dX8_advance_0 : decode cX8_advance 0 = .ok (.aload_n 0, 1) := by decide +kernel
theorem dX8_advance_1 : decode cX8_advance 1 = .ok (.getfield 25, 3) := by decide +kernel
theorem dX8_advance_4 : decode cX8_advance 4 = .ok (.aload_n 0, 1) := by decide +kernel
theorem dX8_advance_5 : decode cX8_advance 5 = .ok (.getfield 21, 3) := by decide +kernel
theorem dX8_advance_8 : decode cX8_advance 8 = .ok (.getfield 95, 3) := by decide +kernel
theorem dX8_advance_11 : decode cX8_advance 11 = .ok (.if_icmp .ge 33, 3) := by decide +kernel
theorem dX8_advance_14 : decode cX8_advance 14 = .ok (.aload_n 0, 1) := by decide +kernel
theorem dX8_advance_15 : decode cX8_advance 15 = .ok (.getfield 21, 3) := by decide +kernel
theorem dX8_advance_18 : decode cX8_advance 18 = .ok (.getfield 98, 3) := by decide +kernel
theorem dX8_advance_21 : decode cX8_advance 21 = .ok (.aload_n 0, 1) := by decide +kernel
theorem dX8_advance_22 : decode cX8_advance 22 = .ok (.getfield 25, 3) := by decide +kernel
theorem dX8_advance_25 : decode cX8_advance 25 = .ok (.iaload, 1) := by decide +kernel
theorem dX8_advance_26 : decode cX8_advance 26 = .ok (.bipush 32, 2) := by decide +kernel
theorem dX8_advance_28 : decode cX8_advance 28 = .ok (.if_icmp .ne 16, 3) := by decide +kernel
theorem dX8_advance_31 : decode cX8_advance 31 = .ok (.aload_n 0, 1) := by decide +kernel
theorem dX8_advance_32 : decode cX8_advance 32 = .ok (.dup, 1) := by decide +kernel
theorem dX8_advance_33 : decode cX8_advance 33 = .ok (.getfield 25, 3) := by decide +kernel
theorem dX8_advance_36 : decode cX8_advance 36 = .ok (.iconst 1, 1) := by decide +kernel
theorem dX8_advance_37 : decode cX8_advance 37 = .ok (.iadd, 1) := by decide +kernel
theorem dX8_advance_38 : decode cX8_advance 38 = .ok (.putfield 25, 3) := by decide +kernel
theorem dX8_advance_41 : decode cX8_advance 41 = .ok (.goto (-41), 3) := by decide +kernel
theorem dX8_advance_44 : decode cX8_advance 44 = .ok (.aload_n 0, 1) := by decide +kernel
theorem dX8_advance_45 : decode cX8_advance 45 = .ok (.aload_n 0, 1) := by decide +kernel
theorem dX8_advance_46 : decode cX8_advance 46 = .ok (.getfield 25, 3) := by decide +kernel
theorem dX8_advance_49 : decode cX8_advance 49 = .ok (.putfield 45, 3) := by decide +kernel
theorem dX8_advance_52 : decode cX8_advance 52 = .ok (.aload_n 0, 1) := by decide +kernel
theorem dX8_advance_53 : decode cX8_advance 53 = .ok (.iconst (-1), 1) := by decide +kernel
theorem dX8_advance_54 : decode cX8_advance 54 = .ok (.putfield 81, 3) := by decide +kernel
theorem dX8_advance_57 : decode cX8_advance 57 = .ok (.aload_n 0, 1) := by decide +kernel
theorem dX8_advance_58 : decode cX8_advance 58 = .ok (.getfield 25, 3) := by decide +kernel
theorem dX8_advance_61 : decode cX8_advance 61 = .ok (.aload_n 0, 1) := by decide +kernel
theorem dX8_advance_62 : decode cX8_advance 62 = .ok (.getfield 21, 3) := by decide +kernel
theorem dX8_advance_65 : decode cX8_advance 65 = .ok (.getfield 95, 3) := by decide +kernel
theorem dX8_advance_68 : decode cX8_advance 68 = .ok (.if_icmp .lt 11, 3) := by decide +kernel
theorem dX8_advance_71 : decode cX8_advance 71 = .ok (.aload_n 0, 1) := by decide +kernel
theorem dX8_advance_72 : decode cX8_advance 72 = .ok (.iconst 0, 1) := by decide +kernel
theorem dX8_advance_73 : decode cX8_advance 73 = .ok (.putfield 39, 3) := by decide +kernel
theorem dX8_advance_76 : decode cX8_advance 76 = .ok (.goto 205, 3) := by decide +kernel
theorem dX8_advance_79 : decode cX8_advance 79 = .ok (.aload_n 0, 1) := by decide +kernel
theorem dX8_advance_80 : decode cX8_advance 80 = .ok (.aload_n 0, 1) := by decide +kernel
theorem dX8_advance_81 : decode cX8_advance 81 = .ok (.getfield 25, 3) := by decide +kernel
theorem dX8_advance_84 : decode cX8_advance 84 = .ok (.invokevirtual 101, 3) := by decide +kernel
theorem dX8_advance_87 : decode cX8_advance 87 = .ok (.ifCond .eq 65, 3) := by decide +kernel
theorem dX8_advance_90 : decode cX8_advance 90 = .ok (.aload_n 0, 1) := by decide +kernel
theorem dX8_advance_91 : decode cX8_advance 91 = .ok (.getfield 25, 3) := by decide +kernel
theorem dX8_advance_94 : decode cX8_advance 94 = .ok (.aload_n 0, 1) := by decide +kernel
theorem dX8_advance_95 : decode cX8_advance 95 = .ok (.getfield 21, 3) := by decide +kernel
theorem dX8_advance_98 : decode cX8_advance 98 = .ok (.getfield 95, 3) := by decide +kernel
theorem dX8_advance_101 : decode cX8_advance 101 = .ok (.if_icmp .ge 27, 3) := by decide +kernel
theorem dX8_advance_104 : decode cX8_advance 104 = .ok (.aload_n 0, 1) := by decide +kernel
theorem dX8_advance_105 : decode cX8_advance 105 = .ok (.aload_n 0, 1) := by decide +kernel
theorem dX8_advance_106 : decode cX8_advance 106 = .ok (.getfield 25, 3) := by decide +kernel
theorem dX8_advance_109 : decode cX8_advance 109 = .ok (.invokevirtual 101, 3) := by decide +kernel
theorem dX8_advance_112 : decode cX8_advance 112 = .ok (.ifCond .eq 16, 3) := by decide +kernel
theorem dX8_advance_115 : decode cX8_advance 115 = .ok (.aload_n 0, 1) := by decide +kernel
theorem dX8_advance_116 : decode cX8_advance 116 = .ok (.dup, 1) := by decide +kernel
theorem dX8_advance_117 : decode cX8_advance 117 = .ok (.getfield 25, 3) := by decide +kernel
theorem dX8_advance_120 : decode cX8_advance 120 = .ok (.iconst 1, 1) := by decide +kernel
theorem dX8_advance_121 : decode cX8_advance 121 = .ok (.iadd, 1) := by decide +kernel
theorem dX8_advance_122 : decode cX8_advance 122 = .ok (.putfield 25, 3) := by decide +kernel
theorem dX8_advance_125 : decode cX8_advance 125 = .ok (.goto (-35), 3) := by decide +kernel
theorem dX8_advance_128 : decode cX8_advance 128 = .ok (.aload_n 0, 1) := by decide +kernel
theorem dX8_advance_129 : decode cX8_advance 129 = .ok (.iconst 1, 1) := by decide +kernel
theorem dX8_advance_130 : decode cX8_advance 130 = .ok (.putfield 39, 3) := by decide +kernel
theorem dX8_advance_133 : decode cX8_advance 133 = .ok (.aload_n 0, 1) := by decide +kernel
theorem dX8_advance_134 : decode cX8_advance 134 = .ok (.aload_n 0, 1) := by decide +kernel
theorem dX8_advance_135 : decode cX8_advance 135 = .ok (.aload_n 0, 1) := by decide +kernel
theorem dX8_advance_136 : decode cX8_advance 136 = .ok (.getfield 45, 3) := by decide +kernel
theorem dX8_advance_139 : decode cX8_advance 139 = .ok (.aload_n 0, 1) := by decide +kernel
theorem dX8_advance_140 : decode cX8_advance 140 = .ok (.getfield 25, 3) := by decide +kernel
theorem dX8_advance_143 : decode cX8_advance 143 = .ok (.invokevirtual 104, 3) := by decide +kernel
theorem dX8_advance_146 : decode cX8_advance 146 = .ok (.putfield 81, 3) := by decide +kernel
theorem dX8_advance_149 : decode cX8_advance 149 = .ok (.goto 132, 3) := by decide +kernel
theorem dX8_advance_152 : decode cX8_advance 152 = .ok (.aload_n 0, 1) := by decide +kernel
theorem dX8_advance_153 : decode cX8_advance 153 = .ok (.aload_n 0, 1) := by decide +kernel
theorem dX8_advance_154 : decode cX8_advance 154 = .ok (.getfield 25, 3) := by decide +kernel
theorem dX8_advance_157 : decode cX8_advance 157 = .ok (.invokevirtual 107, 3) := by decide +kernel
theorem dX8_advance_160 : decode cX8_advance 160 = .ok (.ifCond .eq 85, 3) := by decide +kernel
theorem dX8_advance_163 : decode cX8_advance 163 = .ok (.aload_n 0, 1) := by decide +kernel
theorem dX8_advance_164 : decode cX8_advance 164 = .ok (.getfield 25, 3) := by decide +kernel
theorem dX8_advance_167 : decode cX8_advance 167 = .ok (.aload_n 0, 1) := by decide +kernel
theorem dX8_advance_168 : decode cX8_advance 168 = .ok (.getfield 21, 3) := by decide +kernel
theorem dX8_advance_171 : decode cX8_advance 171 = .ok (.getfield 95, 3) := by decide +kernel
theorem dX8_advance_174 : decode cX8_advance 174 = .ok (.if_icmp .ge 27, 3) := by decide +kernel
theorem dX8_advance_177 : decode cX8_advance 177 = .ok (.aload_n 0, 1) := by decide +kernel
theorem dX8_advance_178 : decode cX8_advance 178 = .ok (.aload_n 0, 1) := by decide +kernel
theorem dX8_advance_179 : decode cX8_advance 179 = .ok (.getfield 25, 3) := by decide +kernel
theorem dX8_advance_182 : decode cX8_advance 182 = .ok (.invokevirtual 107, 3) := by decide +kernel
theorem dX8_advance_185 : decode cX8_advance 185 = .ok (.ifCond .eq 16, 3) := by decide +kernel
theorem dX8_advance_188 : decode cX8_advance 188 = .ok (.aload_n 0, 1) := by decide +kernel
theorem dX8_advance_189 : decode cX8_advance 189 = .ok (.dup, 1) := by decide +kernel
theorem dX8_advance_190 : decode cX8_advance 190 = .ok (.getfield 25, 3) := by decide +kernel
theorem dX8_advance_193 : decode cX8_advance 193 = .ok (.iconst 1, 1) := by decide +kernel
theorem dX8_advance_194 : decode cX8_advance 194 = .ok (.iadd, 1) := by decide +kernel
theorem dX8_advance_195 : decode cX8_advance 195 = .ok (.putfield 25, 3) := by decide +kernel
theorem dX8_advance_198 : decode cX8_advance 198 = .ok (.goto (-35), 3) := by decide +kernel
theorem dX8_advance_201 : decode cX8_advance 201 = .ok (.aload_n 0, 1) := by decide +kernel
theorem dX8_advance_202 : decode cX8_advance 202 = .ok (.iconst 2, 1) := by decide +kernel
theorem dX8_advance_203 : decode cX8_advance 203 = .ok (.putfield 39, 3) := by decide +kernel
theorem dX8_advance_206 : decode cX8_advance 206 = .ok (.aload_n 0, 1) := by decide +kernel
theorem dX8_advance_207 : decode cX8_advance 207 = .ok (.aload_n 0, 1) := by decide +kernel
theorem dX8_advance_208 : decode cX8_advance 208 = .ok (.getfield 25, 3) := by decide +kernel
theorem dX8_advance_211 : decode cX8_advance 211 = .ok (.aload_n 0, 1) := by decide +kernel
theorem dX8_advance_212 : decode cX8_advance 212 = .ok (.getfield 45, 3) := by decide +kernel
theorem dX8_advance_215 : decode cX8_advance 215 = .ok (.isub, 1) := by decide +kernel
theorem dX8_advance_216 : decode cX8_advance 216 = .ok (.iconst 1, 1) := by decide +kernel
theorem dX8_advance_217 : decode cX8_advance 217 = .ok (.if_icmp .ne 21, 3) := by decide +kernel
theorem dX8_advance_220 : decode cX8_advance 220 = .ok (.aload_n 0, 1) := by decide +kernel
theorem dX8_advance_221 : decode cX8_advance 221 = .ok (.getfield 21, 3) := by decide +kernel
theorem dX8_advance_224 : decode cX8_advance 224 = .ok (.getfield 98, 3) := by decide +kernel
theorem dX8_advance_227 : decode cX8_advance 227 = .ok (.aload_n 0, 1) := by decide +kernel
theorem dX8_advance_228 : decode cX8_advance 228 = .ok (.getfield 45, 3) := by decide +kernel
theorem dX8_advance_231 : decode cX8_advance 231 = .ok (.iaload, 1) := by decide +kernel
theorem dX8_advance_232 : decode cX8_advance 232 = .ok (.bipush 48, 2) := by decide +kernel
theorem dX8_advance_234 : decode cX8_advance 234 = .ok (.isub, 1) := by decide +kernel
theorem dX8_advance_235 : decode cX8_advance 235 = .ok (.goto 4, 3) := by decide +kernel
theorem dX8_advance_238 : decode cX8_advance 238 = .ok (.iconst (-1), 1) := by decide +kernel
theorem dX8_advance_239 : decode cX8_advance 239 = .ok (.putfield 81, 3) := by decide +kernel
theorem dX8_advance_242 : decode cX8_advance 242 = .ok (.goto 39, 3) := by decide +kernel
theorem dX8_advance_245 : decode cX8_advance 245 = .ok (.aload_n 0, 1) := by decide +kernel
theorem dX8_advance_246 : decode cX8_advance 246 = .ok (.aload_n 0, 1) := by decide +kernel
theorem dX8_advance_247 : decode cX8_advance 247 = .ok (.getfield 21, 3) := by decide +kernel
theorem dX8_advance_250 : decode cX8_advance 250 = .ok (.getfield 98, 3) := by decide +kernel
theorem dX8_advance_253 : decode cX8_advance 253 = .ok (.aload_n 0, 1) := by decide +kernel
theorem dX8_advance_254 : decode cX8_advance 254 = .ok (.getfield 25, 3) := by decide +kernel
theorem dX8_advance_257 : decode cX8_advance 257 = .ok (.iaload, 1) := by decide +kernel
theorem dX8_advance_258 : decode cX8_advance 258 = .ok (.bipush 59, 2) := by decide +kernel
theorem dX8_advance_260 : decode cX8_advance 260 = .ok (.if_icmp .ne 7, 3) := by decide +kernel
theorem dX8_advance_263 : decode cX8_advance 263 = .ok (.iconst 3, 1) := by decide +kernel
theorem dX8_advance_264 : decode cX8_advance 264 = .ok (.goto 4, 3) := by decide +kernel
theorem dX8_advance_267 : decode cX8_advance 267 = .ok (.iconst 4, 1) := by decide +kernel
theorem dX8_advance_268 : decode cX8_advance 268 = .ok (.putfield 39, 3) := by decide +kernel
theorem dX8_advance_271 : decode cX8_advance 271 = .ok (.aload_n 0, 1) := by decide +kernel
theorem dX8_advance_272 : decode cX8_advance 272 = .ok (.dup, 1) := by decide +kernel
theorem dX8_advance_273 : decode cX8_advance 273 = .ok (.getfield 25, 3) := by decide +kernel
theorem dX8_advance_276 : decode cX8_advance 276 = .ok (.iconst 1, 1) := by decide +kernel
theorem dX8_advance_277 : decode cX8_advance 277 = .ok (.iadd, 1) := by decide +kernel
theorem dX8_advance_278 : decode cX8_advance 278 = .ok (.putfield 25, 3) := by decide +kernel
theorem dX8_advance_281 : decode cX8_advance 281 = .ok (.return_, 1) := by decide +kernel
theorem dX8_isLetter_0 : decode cX8_isLetter 0 = .ok (.aload_n 0, 1) := by decide +kernel
theorem dX8_isLetter_1 : decode cX8_isLetter 1 = .ok (.getfield 21, 3) := by decide +kernel
theorem dX8_isLetter_4 : decode cX8_isLetter 4 = .ok (.getfield 98, 3) := by decide +kernel
theorem dX8_isLetter_7 : decode cX8_isLetter 7 = .ok (.iload_n 1, 1) := by decide +kernel
theorem dX8_isLetter_8 : decode cX8_isLetter 8 = .ok (.iaload, 1) := by decide +kernel
theorem dX8_isLetter_9 : decode cX8_isLetter 9 = .ok (.bipush 97, 2) := by decide +kernel
theorem dX8_isLetter_11 : decode cX8_isLetter 11 = .ok (.if_icmp .lt 21, 3) := by decide +kernel
theorem dX8_isLetter_14 : decode cX8_isLetter 14 = .ok (.aload_n 0, 1) := by decide +kernel
theorem dX8_isLetter_15 : decode cX8_isLetter 15 = .ok (.getfield 21, 3) := by decide +kernel
theorem dX8_isLetter_18 : decode cX8_isLetter 18 = .ok (.getfield 98, 3) := by decide +kernel
theorem dX8_isLetter_21 : decode cX8_isLetter 21 = .ok (.iload_n 1, 1) := by decide +kernel
theorem dX8_isLetter_22 : decode cX8_isLetter 22 = .ok (.iaload, 1) := by decide +kernel
theorem dX8_isLetter_23 : decode cX8_isLetter 23 = .ok (.bipush 122, 2) := by decide +kernel
theorem dX8_isLetter_25 : decode cX8_isLetter 25 = .ok (.if_icmp .gt 7, 3) := by decide +kernel
theorem dX8_isLetter_28 : decode cX8_isLetter 28 = .ok (.iconst 1, 1) := by decide +kernel
theorem dX8_isLetter_29 : decode cX8_isLetter 29 = .ok (.goto 4, 3) := by decide +kernel
theorem dX8_isLetter_32 : decode cX8_isLetter 32 = .ok (.iconst 0, 1) := by decide +kernel
theorem dX8_isLetter_33 : decode cX8_isLetter 33 = .ok (.ireturn, 1) := by decide +kernel
theorem dX8_isFigure_0 : decode cX8_isFigure 0 = .ok (.aload_n 0, 1) := by decide +kernel
theorem dX8_isFigure_1 : decode cX8_isFigure 1 = .ok (.getfield 21, 3) := by decide +kernel
theorem dX8_isFigure_4 : decode cX8_isFigure 4 = .ok (.getfield 98, 3) := by decide +kernel
theorem dX8_isFigure_7 : decode cX8_isFigure 7 = .ok (.iload_n 1, 1) := by decide +kernel
theorem dX8_isFigure_8 : decode cX8_isFigure 8 = .ok (.iaload, 1) := by decide +kernel
theorem dX8_isFigure_9 : decode cX8_isFigure 9 = .ok (.bipush 48, 2) := by decide +kernel
theorem dX8_isFigure_11 : decode cX8_isFigure 11 = .ok (.if_icmp .lt 21, 3) := by decide +kernel
theorem dX8_isFigure_14 : decode cX8_isFigure 14 = .ok (.aload_n 0, 1) := by decide +kernel
theorem dX8_isFigure_15 : decode cX8_isFigure 15 = .ok (.getfield 21, 3) := by decide +kernel
theorem dX8_isFigure_18 : decode cX8_isFigure 18 = .ok (.getfield 98, 3) := by decide +kernel
theorem dX8_isFigure_21 : decode cX8_isFigure 21 = .ok (.iload_n 1, 1) := by decide +kernel
theorem dX8_isFigure_22 : decode cX8_isFigure 22 = .ok (.iaload, 1) := by decide +kernel
theorem dX8_isFigure_23 : decode cX8_isFigure 23 = .ok (.bipush 57, 2) := by decide +kernel
theorem dX8_isFigure_25 : decode cX8_isFigure 25 = .ok (.if_icmp .gt 7, 3) := by decide +kernel
theorem dX8_isFigure_28 : decode cX8_isFigure 28 = .ok (.iconst 1, 1) := by decide +kernel
theorem dX8_isFigure_29 : decode cX8_isFigure 29 = .ok (.goto 4, 3) := by decide +kernel
theorem dX8_isFigure_32 : decode cX8_isFigure 32 = .ok (.iconst 0, 1) := by decide +kernel
theorem dX8_isFigure_33 : decode cX8_isFigure 33 = .ok (.ireturn, 1) := by decide +kernel
set_option maxRecDepth 20000 in
theorem ggX8_wordFrom_X10_wordOf : GoodIn wsX8_wordFrom wsX10_wordOf := goodIn_r _ [3] (by decide +kernel) (by decide +kernel)
set_option maxRecDepth 20000 in
theorem gX8_wordFrom_X10_wordOf_n110 : GoodIn wsX8_wordFrom (wsX10_wordOf) := ggX8_wordFrom_X10_wordOf
set_option maxRecDepth 20000 in
theorem ggX8_wordFrom_X8_spells : GoodIn wsX8_wordFrom wsX8_spells := goodIn_r _ [8, 9, 10, 11, 12, 13, 14, 15, 16, 17, 18, 19, 20, 21, 22, 23, 24, 25, 26, 27, 28, 29, 30, 31, 32, 33, 34, 35, 36, 37, 38, 39, 40, 41, 42, 43, 44, 45, 46, 47, 48, 49, 50, 51, 52, 53, 54, 55, 56, 57, 58, 59, 60, 61, 62, 63, 64, 65, 66, 67] (by decide +kernel) (by decide +kernel)
set_option maxRecDepth 20000 in
theorem gX8_wordFrom_X8_spells : GoodIn wsX8_wordFrom (wsV RX8 114 RX8 yX8_spells wsX8_spells) := goodIn_app (goodIn_of _ (by decide +kernel)) ggX8_wordFrom_X8_spells
theorem dX8_wordFrom_0 : decode cX8_wordFrom 0 = .ok (.iconst 0, 1) := by decide +kernel
theorem dX8_wordFrom_1 : decode cX8_wordFrom 1 = .ok (.istore_n 3, 1) := by decide +kernel
theorem dX8_wordFrom_2 : decode cX8_wordFrom 2 = .ok (.iload_n 3, 1) := by decide +kernel
theorem dX8_wordFrom_3 : decode cX8_wordFrom 3 = .ok (.bipush 12, 2) := by decide +kernel
theorem dX8_wordFrom_5 : decode cX8_wordFrom 5 = .ok (.if_icmp .ge 24, 3) := by decide +kernel
theorem dX8_wordFrom_8 : decode cX8_wordFrom 8 = .ok (.aload_n 0, 1) := by decide +kernel
theorem dX8_wordFrom_9 : decode cX8_wordFrom 9 = .ok (.iload_n 1, 1) := by decide +kernel
theorem dX8_wordFrom_10 : decode cX8_wordFrom 10 = .ok (.iload_n 2, 1) := by decide +kernel
theorem dX8_wordFrom_11 : decode cX8_wordFrom 11 = .ok (.iload_n 3, 1) := by decide +kernel
theorem dX8_wordFrom_12 : decode cX8_wordFrom 12 = .ok (.invokestatic 110, 3) := by decide +kernel
theorem dX8_wordFrom_15 : decode cX8_wordFrom 15 = .ok (.invokevirtual 114, 3) := by decide +kernel
theorem dX8_wordFrom_18 : decode cX8_wordFrom 18 = .ok (.ifCond .eq 5, 3) := by decide +kernel
theorem dX8_wordFrom_21 : decode cX8_wordFrom 21 = .ok (.iload_n 3, 1) := by decide +kernel
theorem dX8_wordFrom_22 : decode cX8_wordFrom 22 = .ok (.ireturn, 1) := by decide +kernel
theorem dX8_wordFrom_23 : decode cX8_wordFrom 23 = .ok (.iinc 3 1, 3) := by decide +kernel
theorem dX8_wordFrom_26 : decode cX8_wordFrom 26 = .ok (.goto (-24), 3) := by decide +kernel
theorem dX8_wordFrom_29 : decode cX8_wordFrom 29 = .ok (.iconst (-1), 1) := by decide +kernel
theorem dX8_wordFrom_30 : decode cX8_wordFrom 30 = .ok (.ireturn, 1) := by decide +kernel
set_option maxRecDepth 20000 in
theorem ggX8_spells_J0_length_8abf5 : GoodIn wsX8_spells wsJ0_length_8abf5 := goodIn_r _ [7, 8, 9, 10, 11, 6, 12, 13, 14] (by decide +kernel) (by decide +kernel)
set_option maxRecDepth 20000 in
theorem gX8_spells_J0_length_8abf5 : GoodIn wsX8_spells (wsV RX8 118 RJ0 yJ0_length_8abf5 wsJ0_length_8abf5) := goodIn_app (goodIn_of _ (by decide +kernel)) ggX8_spells_J0_length_8abf5
set_option maxRecDepth 20000 in
theorem ggX8_spells_J0_charAt_5068e : GoodIn wsX8_spells wsJ0_charAt_5068e := goodIn_r _ [18, 8, 19, 20, 21, 6, 22, 13, 14, 23, 24, 25, 26, 27, 28, 29, 30, 31, 32, 33, 34, 35, 36, 37, 38, 39, 40, 41, 42, 43, 44, 45, 46, 47, 48, 49, 50, 51] (by decide +kernel) (by decide +kernel)
set_option maxRecDepth 20000 in
theorem gX8_spells_J0_charAt_5068e : GoodIn wsX8_spells (wsV RX8 122 RJ0 yJ0_charAt_5068e wsJ0_charAt_5068e) := goodIn_app (goodIn_of _ (by decide +kernel)) ggX8_spells_J0_charAt_5068e
theorem dX8_spells_0 : decode cX8_spells 0 = .ok (.iload_n 2, 1) := by decide +kernel
theorem dX8_spells_1 : decode cX8_spells 1 = .ok (.iload_n 1, 1) := by decide +kernel
theorem dX8_spells_2 : decode cX8_spells 2 = .ok (.isub, 1) := by decide +kernel
theorem dX8_spells_3 : decode cX8_spells 3 = .ok (.aload_n 3, 1) := by decide +kernel
theorem dX8_spells_4 : decode cX8_spells 4 = .ok (.invokevirtual 118, 3) := by decide +kernel
theorem dX8_spells_7 : decode cX8_spells 7 = .ok (.if_icmp .eq 5, 3) := by decide +kernel
theorem dX8_spells_10 : decode cX8_spells 10 = .ok (.iconst 0, 1) := by decide +kernel
theorem dX8_spells_11 : decode cX8_spells 11 = .ok (.ireturn, 1) := by decide +kernel
theorem dX8_spells_12 : decode cX8_spells 12 = .ok (.iconst 0, 1) := by decide +kernel
theorem dX8_spells_13 : decode cX8_spells 13 = .ok (.istore 4, 2) := by decide +kernel
theorem dX8_spells_15 : decode cX8_spells 15 = .ok (.iload 4, 2) := by decide +kernel
theorem dX8_spells_17 : decode cX8_spells 17 = .ok (.aload_n 3, 1) := by decide +kernel
theorem dX8_spells_18 : decode cX8_spells 18 = .ok (.invokevirtual 118, 3) := by decide +kernel
theorem dX8_spells_21 : decode cX8_spells 21 = .ok (.if_icmp .ge 32, 3) := by decide +kernel
theorem dX8_spells_24 : decode cX8_spells 24 = .ok (.aload_n 0, 1) := by decide +kernel
theorem dX8_spells_25 : decode cX8_spells 25 = .ok (.getfield 21, 3) := by decide +kernel
theorem dX8_spells_28 : decode cX8_spells 28 = .ok (.getfield 98, 3) := by decide +kernel
theorem dX8_spells_31 : decode cX8_spells 31 = .ok (.iload_n 1, 1) := by decide +kernel
theorem dX8_spells_32 : decode cX8_spells 32 = .ok (.iload 4, 2) := by decide +kernel
theorem dX8_spells_34 : decode cX8_spells 34 = .ok (.iadd, 1) := by decide +kernel
theorem dX8_spells_35 : decode cX8_spells 35 = .ok (.iaload, 1) := by decide +kernel
theorem dX8_spells_36 : decode cX8_spells 36 = .ok (.aload_n 3, 1) := by decide +kernel
theorem dX8_spells_37 : decode cX8_spells 37 = .ok (.iload 4, 2) := by decide +kernel
theorem dX8_spells_39 : decode cX8_spells 39 = .ok (.invokevirtual 122, 3) := by decide +kernel
theorem dX8_spells_42 : decode cX8_spells 42 = .ok (.if_icmp .eq 5, 3) := by decide +kernel
theorem dX8_spells_45 : decode cX8_spells 45 = .ok (.iconst 0, 1) := by decide +kernel
theorem dX8_spells_46 : decode cX8_spells 46 = .ok (.ireturn, 1) := by decide +kernel
theorem dX8_spells_47 : decode cX8_spells 47 = .ok (.iinc 4 1, 3) := by decide +kernel
theorem dX8_spells_50 : decode cX8_spells 50 = .ok (.goto (-35), 3) := by decide +kernel
theorem dX8_spells_53 : decode cX8_spells 53 = .ok (.iconst 1, 1) := by decide +kernel
theorem dX8_spells_54 : decode cX8_spells 54 = .ok (.ireturn, 1) := by decide +kernel
theorem dX9_init_0 : decode cX9_init 0 = .ok (.aload_n 0, 1) := by decide +kernel
theorem dX9_init_1 : decode cX9_init 1 = .ok (.invokespecial 3, 3) := by decide +kernel
theorem dX9_init_4 : decode cX9_init 4 = .ok (.aload_n 0, 1) := by decide +kernel
theorem dX9_init_5 : decode cX9_init 5 = .ok (.sipush 729, 3) := by decide +kernel
theorem dX9_init_8 : decode cX9_init 8 = .ok (.newarray .int, 2) := by decide +kernel
theorem dX9_init_10 : decode cX9_init 10 = .ok (.putfield 9, 3) := by decide +kernel
theorem dX9_init_13 : decode cX9_init 13 = .ok (.aload_n 0, 1) := by decide +kernel
theorem dX9_init_14 : decode cX9_init 14 = .ok (.sipush 729, 3) := by decide +kernel
theorem dX9_init_17 : decode cX9_init 17 = .ok (.newarray .long, 2) := by decide +kernel
theorem dX9_init_19 : decode cX9_init 19 = .ok (.putfield 15, 3) := by decide +kernel
theorem dX9_init_22 : decode cX9_init 22 = .ok (.return_, 1) := by decide +kernel
set_option maxRecDepth 20000 in
theorem ggX9_lay_X10_setAt : GoodIn wsX9_lay wsX10_setAt := goodIn_r _ [7, 8] (by decide +kernel) (by decide +kernel)
set_option maxRecDepth 20000 in
theorem gX9_lay_X10_setAt_n26 : GoodIn wsX9_lay (wsX10_setAt) := ggX9_lay_X10_setAt
set_option maxRecDepth 20000 in
theorem ggX9_lay_X2_weigh : GoodIn wsX9_lay wsX2_weigh := goodIn_r _ [13, 14, 15, 16, 17, 18, 19, 20, 21, 22, 23, 24, 25, 26, 12, 27, 54, 55, 56, 57, 58, 59, 60, 61, 62, 63, 64, 65] (by decide +kernel) (by decide +kernel)
set_option maxRecDepth 20000 in
theorem gX9_lay_X2_weigh : GoodIn wsX9_lay (wsV RX9 30 RX2 yX2_weigh wsX2_weigh) := goodIn_app (goodIn_of _ (by decide +kernel)) ggX9_lay_X2_weigh
set_option maxRecDepth 20000 in
theorem ggX9_lay_X2_looseIn : GoodIn wsX9_lay wsX2_looseIn := goodIn_r _ [31, 15, 54, 55, 56, 57, 58, 59, 60, 61, 62, 63, 64, 65] (by decide +kernel) (by decide +kernel)
set_option maxRecDepth 20000 in
theorem gX9_lay_X2_looseIn : GoodIn wsX9_lay (wsV RX9 39 RX2 yX2_looseIn wsX2_looseIn) := goodIn_app (goodIn_of _ (by decide +kernel)) ggX9_lay_X2_looseIn
set_option maxRecDepth 20000 in
theorem ggX9_lay_X9_waysTo : GoodIn wsX9_lay wsX9_waysTo := goodIn_r _ [36, 2, 37, 4, 38, 5, 6, 7, 8, 39, 40, 41, 42, 43, 44, 45, 46, 47, 48, 49, 50, 51, 52, 53, 66, 67, 68, 69] (by decide +kernel) (by decide +kernel)
set_option maxRecDepth 20000 in
theorem gX9_lay_X9_waysTo : GoodIn wsX9_lay (wsV RX9 43 RX9 yX9_waysTo wsX9_waysTo) := goodIn_app (goodIn_of _ (by decide +kernel)) ggX9_lay_X9_waysTo
theorem dX9_lay_0 : decode cX9_lay 0 = .ok (.aload_n 0, 1) := by decide +kernel
theorem dX9_lay_1 : decode cX9_lay 1 = .ok (.getstatic 19, 3) := by decide +kernel
theorem dX9_lay_4 : decode cX9_lay 4 = .ok (.iload_n 3, 1) := by decide +kernel
theorem dX9_lay_5 : decode cX9_lay 5 = .ok (.iaload, 1) := by decide +kernel
theorem dX9_lay_6 : decode cX9_lay 6 = .ok (.putfield 22, 3) := by decide +kernel
theorem dX9_lay_9 : decode cX9_lay 9 = .ok (.iconst 0, 1) := by decide +kernel
theorem dX9_lay_10 : decode cX9_lay 10 = .ok (.istore 4, 2) := by decide +kernel
theorem dX9_lay_12 : decode cX9_lay 12 = .ok (.iload 4, 2) := by decide +kernel
theorem dX9_lay_14 : decode cX9_lay 14 = .ok (.aload_n 0, 1) := by decide +kernel
theorem dX9_lay_15 : decode cX9_lay 15 = .ok (.getfield 22, 3) := by decide +kernel
theorem dX9_lay_18 : decode cX9_lay 18 = .ok (.if_icmp .ge 76, 3) := by decide +kernel
theorem dX9_lay_21 : decode cX9_lay 21 = .ok (.iload 4, 2) := by decide +kernel
theorem dX9_lay_23 : decode cX9_lay 23 = .ok (.invokestatic 26, 3) := by decide +kernel
theorem dX9_lay_26 : decode cX9_lay 26 = .ok (.istore 5, 2) := by decide +kernel
theorem dX9_lay_28 : decode cX9_lay 28 = .ok (.aload_n 1, 1) := by decide +kernel
theorem dX9_lay_29 : decode cX9_lay 29 = .ok (.iload 5, 2) := by decide +kernel
theorem dX9_lay_31 : decode cX9_lay 31 = .ok (.invokevirtual 30, 3) := by decide +kernel
theorem dX9_lay_34 : decode cX9_lay 34 = .ok (.aload_n 0, 1) := by decide +kernel
theorem dX9_lay_35 : decode cX9_lay 35 = .ok (.getfield 9, 3) := by decide +kernel
theorem dX9_lay_38 : decode cX9_lay 38 = .ok (.iload 4, 2) := by decide +kernel
theorem dX9_lay_40 : decode cX9_lay 40 = .ok (.aload_n 1, 1) := by decide +kernel
theorem dX9_lay_41 : decode cX9_lay 41 = .ok (.getfield 36, 3) := by decide +kernel
theorem dX9_lay_44 : decode cX9_lay 44 = .ok (.ifCond .eq 7, 3) := by decide +kernel
theorem dX9_lay_47 : decode cX9_lay 47 = .ok (.iconst (-1), 1) := by decide +kernel
theorem dX9_lay_48 : decode cX9_lay 48 = .ok (.goto 10, 3) := by decide +kernel
theorem dX9_lay_51 : decode cX9_lay 51 = .ok (.aload_n 1, 1) := by decide +kernel
theorem dX9_lay_52 : decode cX9_lay 52 = .ok (.iload 5, 2) := by decide +kernel
theorem dX9_lay_54 : decode cX9_lay 54 = .ok (.iconst (-1), 1) := by decide +kernel
theorem dX9_lay_55 : decode cX9_lay 55 = .ok (.invokevirtual 39, 3) := by decide +kernel
theorem dX9_lay_58 : decode cX9_lay 58 = .ok (.iastore, 1) := by decide +kernel
theorem dX9_lay_59 : decode cX9_lay 59 = .ok (.aload_n 0, 1) := by decide +kernel
theorem dX9_lay_60 : decode cX9_lay 60 = .ok (.getfield 15, 3) := by decide +kernel
theorem dX9_lay_63 : decode cX9_lay 63 = .ok (.iload 4, 2) := by decide +kernel
theorem dX9_lay_65 : decode cX9_lay 65 = .ok (.aload_n 0, 1) := by decide +kernel
theorem dX9_lay_66 : decode cX9_lay 66 = .ok (.getfield 9, 3) := by decide +kernel
theorem dX9_lay_69 : decode cX9_lay 69 = .ok (.iload 4, 2) := by decide +kernel
theorem dX9_lay_71 : decode cX9_lay 71 = .ok (.iaload, 1) := by decide +kernel
theorem dX9_lay_72 : decode cX9_lay 72 = .ok (.iconst (-1), 1) := by decide +kernel
theorem dX9_lay_73 : decode cX9_lay 73 = .ok (.if_icmp .ne 7, 3) := by decide +kernel
theorem dX9_lay_76 : decode cX9_lay 76 = .ok (.lconst 0, 1) := by decide +kernel
theorem dX9_lay_77 : decode cX9_lay 77 = .ok (.goto 10, 3) := by decide +kernel
theorem dX9_lay_80 : decode cX9_lay 80 = .ok (.aload_n 0, 1) := by decide +kernel
theorem dX9_lay_81 : decode cX9_lay 81 = .ok (.iload 4, 2) := by decide +kernel
theorem dX9_lay_83 : decode cX9_lay 83 = .ok (.aload_n 2, 1) := by decide +kernel
theorem dX9_lay_84 : decode cX9_lay 84 = .ok (.invokevirtual 43, 3) := by decide +kernel
theorem dX9_lay_87 : decode cX9_lay 87 = .ok (.lastore, 1) := by decide +kernel
theorem dX9_lay_88 : decode cX9_lay 88 = .ok (.iinc 4 1, 3) := by decide +kernel
theorem dX9_lay_91 : decode cX9_lay 91 = .ok (.goto (-79), 3) := by decide +kernel
theorem dX9_lay_94 : decode cX9_lay 94 = .ok (.return_, 1) := by decide +kernel
set_option maxRecDepth 20000 in
theorem ggX9_waysTo_X10_setAt : GoodIn wsX9_waysTo wsX10_setAt := goodIn_r _ [7, 8] (by decide +kernel) (by decide +kernel)
set_option maxRecDepth 20000 in
theorem gX9_waysTo_X10_setAt_n26 : GoodIn wsX9_waysTo (wsX10_setAt) := ggX9_waysTo_X10_setAt
set_option maxRecDepth 20000 in
theorem ggX9_waysTo_X7_take : GoodIn wsX9_waysTo wsX7_take := goodIn_r _ [13, 14, 15, 16, 17, 24, 25, 26, 27] (by decide +kernel) (by decide +kernel)
set_option maxRecDepth 20000 in
theorem gX9_waysTo_X7_take : GoodIn wsX9_waysTo (wsV RX9 47 RX7 yX7_take wsX7_take) := goodIn_app (goodIn_of _ (by decide +kernel)) ggX9_waysTo_X7_take
set_option maxRecDepth 20000 in
theorem ggX9_waysTo_X10_placeOf : GoodIn wsX9_waysTo wsX10_placeOf := goodIn_r _ [19, 20] (by decide +kernel) (by decide +kernel)
set_option maxRecDepth 20000 in
theorem gX9_waysTo_X10_placeOf_n58 : GoodIn wsX9_waysTo (wsX10_placeOf) := ggX9_waysTo_X10_placeOf
theorem dX9_waysTo_0 : decode cX9_waysTo 0 = .ok (.iload_n 1, 1) := by decide +kernel
theorem dX9_waysTo_1 : decode cX9_waysTo 1 = .ok (.ifCond .ne 5, 3) := by decide +kernel
theorem dX9_waysTo_4 : decode cX9_waysTo 4 = .ok (.lconst 1, 1) := by decide +kernel
theorem dX9_waysTo_5 : decode cX9_waysTo 5 = .ok (.lreturn, 1) := by decide +kernel
theorem dX9_waysTo_6 : decode cX9_waysTo 6 = .ok (.iload_n 1, 1) := by decide +kernel
theorem dX9_waysTo_7 : decode cX9_waysTo 7 = .ok (.invokestatic 26, 3) := by decide +kernel
theorem dX9_waysTo_10 : decode cX9_waysTo 10 = .ok (.istore_n 3, 1) := by decide +kernel
theorem dX9_waysTo_11 : decode cX9_waysTo 11 = .ok (.lconst 0, 1) := by decide +kernel
theorem dX9_waysTo_12 : decode cX9_waysTo 12 = .ok (.lstore 4, 2) := by decide +kernel
theorem dX9_waysTo_14 : decode cX9_waysTo 14 = .ok (.aload_n 2, 1) := by decide +kernel
theorem dX9_waysTo_15 : decode cX9_waysTo 15 = .ok (.aload_n 0, 1) := by decide +kernel
theorem dX9_waysTo_16 : decode cX9_waysTo 16 = .ok (.getfield 9, 3) := by decide +kernel
theorem dX9_waysTo_19 : decode cX9_waysTo 19 = .ok (.iload_n 1, 1) := by decide +kernel
theorem dX9_waysTo_20 : decode cX9_waysTo 20 = .ok (.iaload, 1) := by decide +kernel
theorem dX9_waysTo_21 : decode cX9_waysTo 21 = .ok (.invokevirtual 47, 3) := by decide +kernel
theorem dX9_waysTo_24 : decode cX9_waysTo 24 = .ok (.iconst 1, 1) := by decide +kernel
theorem dX9_waysTo_25 : decode cX9_waysTo 25 = .ok (.istore 6, 2) := by decide +kernel
theorem dX9_waysTo_27 : decode cX9_waysTo 27 = .ok (.iload 6, 2) := by decide +kernel
theorem dX9_waysTo_29 : decode cX9_waysTo 29 = .ok (.aload_n 2, 1) := by decide +kernel
theorem dX9_waysTo_30 : decode cX9_waysTo 30 = .ok (.getfield 52, 3) := by decide +kernel
theorem dX9_waysTo_33 : decode cX9_waysTo 33 = .ok (.if_icmp .ge 31, 3) := by decide +kernel
theorem dX9_waysTo_36 : decode cX9_waysTo 36 = .ok (.lload 4, 2) := by decide +kernel
theorem dX9_waysTo_38 : decode cX9_waysTo 38 = .ok (.aload_n 0, 1) := by decide +kernel
theorem dX9_waysTo_39 : decode cX9_waysTo 39 = .ok (.getfield 15, 3) := by decide +kernel
theorem dX9_waysTo_42 : decode cX9_waysTo 42 = .ok (.iload_n 3, 1) := by decide +kernel
theorem dX9_waysTo_43 : decode cX9_waysTo 43 = .ok (.aload_n 2, 1) := by decide +kernel
theorem dX9_waysTo_44 : decode cX9_waysTo 44 = .ok (.getfield 55, 3) := by decide +kernel
theorem dX9_waysTo_47 : decode cX9_waysTo 47 = .ok (.iload 6, 2) := by decide +kernel
theorem dX9_waysTo_49 : decode cX9_waysTo 49 = .ok (.iaload, 1) := by decide +kernel
theorem dX9_waysTo_50 : decode cX9_waysTo 50 = .ok (.ixor, 1) := by decide +kernel
theorem dX9_waysTo_51 : decode cX9_waysTo 51 = .ok (.invokestatic 58, 3) := by decide +kernel
theorem dX9_waysTo_54 : decode cX9_waysTo 54 = .ok (.laload, 1) := by decide +kernel
theorem dX9_waysTo_55 : decode cX9_waysTo 55 = .ok (.ladd, 1) := by decide +kernel
theorem dX9_waysTo_56 : decode cX9_waysTo 56 = .ok (.lstore 4, 2) := by decide +kernel
theorem dX9_waysTo_58 : decode cX9_waysTo 58 = .ok (.iinc 6 1, 3) := by decide +kernel
theorem dX9_waysTo_61 : decode cX9_waysTo 61 = .ok (.goto (-34), 3) := by decide +kernel
theorem dX9_waysTo_64 : decode cX9_waysTo 64 = .ok (.lload 4, 2) := by decide +kernel
theorem dX9_waysTo_66 : decode cX9_waysTo 66 = .ok (.lreturn, 1) := by decide +kernel
theorem dX9_allWays_0 : decode cX9_allWays 0 = .ok (.aload_n 0, 1) := by decide +kernel
theorem dX9_allWays_1 : decode cX9_allWays 1 = .ok (.getfield 15, 3) := by decide +kernel
theorem dX9_allWays_4 : decode cX9_allWays 4 = .ok (.aload_n 0, 1) := by decide +kernel
theorem dX9_allWays_5 : decode cX9_allWays 5 = .ok (.getfield 22, 3) := by decide +kernel
theorem dX9_allWays_8 : decode cX9_allWays 8 = .ok (.iconst 1, 1) := by decide +kernel
theorem dX9_allWays_9 : decode cX9_allWays 9 = .ok (.isub, 1) := by decide +kernel
theorem dX9_allWays_10 : decode cX9_allWays 10 = .ok (.laload, 1) := by decide +kernel
theorem dX9_allWays_11 : decode cX9_allWays 11 = .ok (.lreturn, 1) := by decide +kernel
set_option maxRecDepth 20000 in
theorem ggX10_init_X4_init : GoodIn wsX10_init wsX4_init := goodIn_r _ [50, 51, 2, 3, 19, 52, 53, 54, 55, 56, 57, 58, 122, 123, 124, 125, 126, 127, 128, 129, 130] (by decide +kernel) (by decide +kernel)
set_option maxRecDepth 20000 in
theorem gX10_init_X4_init_n11 : GoodIn wsX10_init (wsX4_init) := ggX10_init_X4_init
set_option maxRecDepth 20000 in
theorem ggX10_init_X6_init : GoodIn wsX10_init wsX6_init := goodIn_r _ [60, 61, 2, 3, 19, 62, 148, 149] (by decide +kernel) (by decide +kernel)
set_option maxRecDepth 20000 in
theorem gX10_init_X6_init_n26 : GoodIn wsX10_init (wsX6_init) := ggX10_init_X6_init
set_option maxRecDepth 20000 in
theorem ggX10_init_X8_init : GoodIn wsX10_init wsX8_init := goodIn_r _ [64, 65, 2, 3, 66, 5, 6, 67, 68, 12, 13, 69, 49, 50, 51, 19, 52, 53, 54, 55, 56, 57, 58, 59, 60, 61, 62, 122, 123, 124, 125, 126, 127, 128, 129, 130, 150, 151, 152, 153, 154, 155, 148, 149] (by decide +kernel) (by decide +kernel)
set_option maxRecDepth 20000 in
theorem gX10_init_X8_init_n33 : GoodIn wsX10_init (wsX8_init) := ggX10_init_X8_init
set_option maxRecDepth 20000 in
theorem ggX10_init_X2_init : GoodIn wsX10_init wsX2_init := goodIn_r _ [71, 72, 2, 3, 19, 73, 74, 9, 75, 76, 77, 78, 79, 80, 156, 157, 158, 159, 160, 161, 162, 163, 164, 165, 166, 167] (by decide +kernel) (by decide +kernel)
set_option maxRecDepth 20000 in
theorem gX10_init_X2_init_n44 : GoodIn wsX10_init (wsX2_init) := ggX10_init_X2_init
set_option maxRecDepth 20000 in
theorem ggX10_init_X7_init : GoodIn wsX10_init wsX7_init := goodIn_r _ [82, 83, 2, 3, 19, 84, 85, 168, 169, 170, 171] (by decide +kernel) (by decide +kernel)
set_option maxRecDepth 20000 in
theorem gX10_init_X7_init_n51 : GoodIn wsX10_init (wsX7_init) := ggX10_init_X7_init
set_option maxRecDepth 20000 in
theorem ggX10_init_X9_init : GoodIn wsX10_init wsX9_init := goodIn_r _ [87, 88, 2, 3, 19, 89, 90, 91, 172, 173, 174] (by decide +kernel) (by decide +kernel)
set_option maxRecDepth 20000 in
theorem gX10_init_X9_init_n58 : GoodIn wsX10_init (wsX9_init) := ggX10_init_X9_init
set_option maxRecDepth 20000 in
theorem ggX10_init_X3_init : GoodIn wsX10_init wsX3_init := goodIn_r _ [93, 94, 2, 3, 19, 95, 90, 96, 97, 98, 99, 175, 176, 177, 178, 179, 180, 181] (by decide +kernel) (by decide +kernel)
set_option maxRecDepth 20000 in
theorem gX10_init_X3_init_n65 : GoodIn wsX10_init (wsX3_init) := ggX10_init_X3_init
set_option maxRecDepth 20000 in
theorem ggX10_init_X0_init : GoodIn wsX10_init wsX0_init := goodIn_r _ [101, 102, 2, 3, 90, 103, 19, 104, 182, 183, 184] (by decide +kernel) (by decide +kernel)
set_option maxRecDepth 20000 in
theorem gX10_init_X0_init_n72 : GoodIn wsX10_init (wsX0_init) := ggX10_init_X0_init
set_option maxRecDepth 20000 in
theorem ggX10_init_X1_init : GoodIn wsX10_init wsX1_init := goodIn_r _ [106, 107, 2, 3, 19, 108, 109, 110, 111, 112, 185, 186, 187, 188, 189] (by decide +kernel) (by decide +kernel)
set_option maxRecDepth 20000 in
theorem gX10_init_X1_init_n79 : GoodIn wsX10_init (wsX1_init) := ggX10_init_X1_init
set_option maxRecDepth 20000 in
theorem ggX10_init_X5_init : GoodIn wsX10_init wsX5_init := goodIn_r _ [114, 115, 2, 3, 19, 116, 117, 30, 31, 118, 119, 120, 121, 86, 87, 88, 89, 90, 91, 190, 191, 192, 193, 194, 195, 196, 197, 172, 173, 174] (by decide +kernel) (by decide +kernel)
set_option maxRecDepth 20000 in
theorem gX10_init_X5_init_n86 : GoodIn wsX10_init (wsX5_init) := ggX10_init_X5_init
theorem dX10_init_0 : decode cX10_init 0 = .ok (.aload_n 0, 1) := by decide +kernel
theorem dX10_init_1 : decode cX10_init 1 = .ok (.invokespecial 3, 3) := by decide +kernel
theorem dX10_init_4 : decode cX10_init 4 = .ok (.aload_n 0, 1) := by decide +kernel
theorem dX10_init_5 : decode cX10_init 5 = .ok (.new 9, 3) := by decide +kernel
theorem dX10_init_8 : decode cX10_init 8 = .ok (.dup, 1) := by decide +kernel
theorem dX10_init_9 : decode cX10_init 9 = .ok (.invokespecial 11, 3) := by decide +kernel
theorem dX10_init_12 : decode cX10_init 12 = .ok (.putfield 12, 3) := by decide +kernel
theorem dX10_init_15 : decode cX10_init 15 = .ok (.aload_n 0, 1) := by decide +kernel
theorem dX10_init_16 : decode cX10_init 16 = .ok (.iconst 2, 1) := by decide +kernel
theorem dX10_init_17 : decode cX10_init 17 = .ok (.anewarray 9, 3) := by decide +kernel
theorem dX10_init_20 : decode cX10_init 20 = .ok (.dup, 1) := by decide +kernel
theorem dX10_init_21 : decode cX10_init 21 = .ok (.iconst 0, 1) := by decide +kernel
theorem dX10_init_22 : decode cX10_init 22 = .ok (.new 9, 3) := by decide +kernel
theorem dX10_init_25 : decode cX10_init 25 = .ok (.dup, 1) := by decide +kernel
theorem dX10_init_26 : decode cX10_init 26 = .ok (.invokespecial 11, 3) := by decide +kernel
theorem dX10_init_29 : decode cX10_init 29 = .ok (.aastore, 1) := by decide +kernel
theorem dX10_init_30 : decode cX10_init 30 = .ok (.dup, 1) := by decide +kernel
theorem dX10_init_31 : decode cX10_init 31 = .ok (.iconst 1, 1) := by decide +kernel
theorem dX10_init_32 : decode cX10_init 32 = .ok (.new 9, 3) := by decide +kernel
theorem dX10_init_35 : decode cX10_init 35 = .ok (.dup, 1) := by decide +kernel
theorem dX10_init_36 : decode cX10_init 36 = .ok (.invokespecial 11, 3) := by decide +kernel
theorem dX10_init_39 : decode cX10_init 39 = .ok (.aastore, 1) := by decide +kernel
theorem dX10_init_40 : decode cX10_init 40 = .ok (.putfield 16, 3) := by decide +kernel
theorem dX10_init_43 : decode cX10_init 43 = .ok (.aload_n 0, 1) := by decide +kernel
theorem dX10_init_44 : decode cX10_init 44 = .ok (.iconst 2, 1) := by decide +kernel
theorem dX10_init_45 : decode cX10_init 45 = .ok (.newarray .boolean, 2) := by decide +kernel
theorem dX10_init_47 : decode cX10_init 47 = .ok (.putfield 20, 3) := by decide +kernel
theorem dX10_init_50 : decode cX10_init 50 = .ok (.aload_n 0, 1) := by decide +kernel
theorem dX10_init_51 : decode cX10_init 51 = .ok (.new 24, 3) := by decide +kernel
theorem dX10_init_54 : decode cX10_init 54 = .ok (.dup, 1) := by decide +kernel
theorem dX10_init_55 : decode cX10_init 55 = .ok (.invokespecial 26, 3) := by decide +kernel
theorem dX10_init_58 : decode cX10_init 58 = .ok (.putfield 27, 3) := by decide +kernel
theorem dX10_init_61 : decode cX10_init 61 = .ok (.aload_n 0, 1) := by decide +kernel
theorem dX10_init_62 : decode cX10_init 62 = .ok (.new 31, 3) := by decide +kernel
theorem dX10_init_65 : decode cX10_init 65 = .ok (.dup, 1) := by decide +kernel
theorem dX10_init_66 : decode cX10_init 66 = .ok (.invokespecial 33, 3) := by decide +kernel
theorem dX10_init_69 : decode cX10_init 69 = .ok (.putfield 34, 3) := by decide +kernel
theorem dX10_init_72 : decode cX10_init 72 = .ok (.aload_n 0, 1) := by decide +kernel
theorem dX10_init_73 : decode cX10_init 73 = .ok (.iconst 3, 1) := by decide +kernel
theorem dX10_init_74 : decode cX10_init 74 = .ok (.newarray .int, 2) := by decide +kernel
theorem dX10_init_76 : decode cX10_init 76 = .ok (.putfield 38, 3) := by decide +kernel
theorem dX10_init_79 : decode cX10_init 79 = .ok (.aload_n 0, 1) := by decide +kernel
theorem dX10_init_80 : decode cX10_init 80 = .ok (.new 42, 3) := by decide +kernel
theorem dX10_init_83 : decode cX10_init 83 = .ok (.dup, 1) := by decide +kernel
theorem dX10_init_84 : decode cX10_init 84 = .ok (.invokespecial 44, 3) := by decide +kernel
theorem dX10_init_87 : decode cX10_init 87 = .ok (.putfield 45, 3) := by decide +kernel
theorem dX10_init_90 : decode cX10_init 90 = .ok (.aload_n 0, 1) := by decide +kernel
theorem dX10_init_91 : decode cX10_init 91 = .ok (.new 49, 3) := by decide +kernel
theorem dX10_init_94 : decode cX10_init 94 = .ok (.dup, 1) := by decide +kernel
theorem dX10_init_95 : decode cX10_init 95 = .ok (.invokespecial 51, 3) := by decide +kernel
theorem dX10_init_98 : decode cX10_init 98 = .ok (.putfield 52, 3) := by decide +kernel
theorem dX10_init_101 : decode cX10_init 101 = .ok (.aload_n 0, 1) := by decide +kernel
theorem dX10_init_102 : decode cX10_init 102 = .ok (.new 56, 3) := by decide +kernel
theorem dX10_init_105 : decode cX10_init 105 = .ok (.dup, 1) := by decide +kernel
theorem dX10_init_106 : decode cX10_init 106 = .ok (.invokespecial 58, 3) := by decide +kernel
theorem dX10_init_109 : decode cX10_init 109 = .ok (.putfield 59, 3) := by decide +kernel
theorem dX10_init_112 : decode cX10_init 112 = .ok (.aload_n 0, 1) := by decide +kernel
theorem dX10_init_113 : decode cX10_init 113 = .ok (.new 63, 3) := by decide +kernel
theorem dX10_init_116 : decode cX10_init 116 = .ok (.dup, 1) := by decide +kernel
theorem dX10_init_117 : decode cX10_init 117 = .ok (.invokespecial 65, 3) := by decide +kernel
theorem dX10_init_120 : decode cX10_init 120 = .ok (.putfield 66, 3) := by decide +kernel
theorem dX10_init_123 : decode cX10_init 123 = .ok (.aload_n 0, 1) := by decide +kernel
theorem dX10_init_124 : decode cX10_init 124 = .ok (.new 70, 3) := by decide +kernel
theorem dX10_init_127 : decode cX10_init 127 = .ok (.dup, 1) := by decide +kernel
theorem dX10_init_128 : decode cX10_init 128 = .ok (.invokespecial 72, 3) := by decide +kernel
theorem dX10_init_131 : decode cX10_init 131 = .ok (.putfield 73, 3) := by decide +kernel
theorem dX10_init_134 : decode cX10_init 134 = .ok (.aload_n 0, 1) := by decide +kernel
theorem dX10_init_135 : decode cX10_init 135 = .ok (.new 77, 3) := by decide +kernel
theorem dX10_init_138 : decode cX10_init 138 = .ok (.dup, 1) := by decide +kernel
theorem dX10_init_139 : decode cX10_init 139 = .ok (.invokespecial 79, 3) := by decide +kernel
theorem dX10_init_142 : decode cX10_init 142 = .ok (.putfield 80, 3) := by decide +kernel
theorem dX10_init_145 : decode cX10_init 145 = .ok (.aload_n 0, 1) := by decide +kernel
theorem dX10_init_146 : decode cX10_init 146 = .ok (.new 84, 3) := by decide +kernel
theorem dX10_init_149 : decode cX10_init 149 = .ok (.dup, 1) := by decide +kernel
theorem dX10_init_150 : decode cX10_init 150 = .ok (.invokespecial 86, 3) := by decide +kernel
theorem dX10_init_153 : decode cX10_init 153 = .ok (.putfield 87, 3) := by decide +kernel
theorem dX10_init_156 : decode cX10_init 156 = .ok (.return_, 1) := by decide +kernel
set_option maxRecDepth 20000 in
theorem ggX10_thing_X10_refuse : GoodIn wsX10_thing wsX10_refuse := goodIn_r _ [7, 8, 26, 27, 28, 29, 30, 31, 32, 33, 34, 35, 36, 37, 38, 39, 40, 41, 42] (by decide +kernel) (by decide +kernel)
set_option maxRecDepth 20000 in
theorem gX10_thing_X10_refuse : GoodIn wsX10_thing (wsV RX10 95 RX10 yX10_refuse wsX10_refuse) := goodIn_app (goodIn_of _ (by decide +kernel)) ggX10_thing_X10_refuse
set_option maxRecDepth 20000 in
theorem ggX10_thing_X10_changed : GoodIn wsX10_thing wsX10_changed := goodIn_r _ [12, 13, 14, 15, 16, 26, 27, 28, 29, 30, 31, 32, 33, 34, 35, 36, 37, 38, 39, 40, 41, 42] (by decide +kernel) (by decide +kernel)
set_option maxRecDepth 20000 in
theorem gX10_thing_X10_changed : GoodIn wsX10_thing (wsV RX10 99 RX10 yX10_changed wsX10_changed) := goodIn_app (goodIn_of _ (by decide +kernel)) ggX10_thing_X10_changed
set_option maxRecDepth 20000 in
theorem ggX10_thing_X4_addThing : GoodIn wsX10_thing wsX4_addThing := goodIn_r _ [21, 22, 23, 24, 25, 43, 44, 45, 46, 47, 48, 49, 50, 51] (by decide +kernel) (by decide +kernel)
set_option maxRecDepth 20000 in
theorem gX10_thing_X4_addThing : GoodIn wsX10_thing (wsV RX10 102 RX4 yX4_addThing wsX4_addThing) := goodIn_app (goodIn_of _ (by decide +kernel)) ggX10_thing_X4_addThing
theorem dX10_thing_0 : decode cX10_thing 0 = .ok (.aload_n 0, 1) := by decide +kernel
theorem dX10_thing_1 : decode cX10_thing 1 = .ok (.getfield 12, 3) := by decide +kernel
theorem dX10_thing_4 : decode cX10_thing 4 = .ok (.getfield 91, 3) := by decide +kernel
theorem dX10_thing_7 : decode cX10_thing 7 = .ok (.bipush 6, 2) := by decide +kernel
theorem dX10_thing_9 : decode cX10_thing 9 = .ok (.if_icmp .lt 12, 3) := by decide +kernel
theorem dX10_thing_12 : decode cX10_thing 12 = .ok (.aload_n 0, 1) := by decide +kernel
theorem dX10_thing_13 : decode cX10_thing 13 = .ok (.bipush (-4), 2) := by decide +kernel
theorem dX10_thing_15 : decode cX10_thing 15 = .ok (.bipush (-4), 2) := by decide +kernel
theorem dX10_thing_17 : decode cX10_thing 17 = .ok (.invokevirtual 95, 3) := by decide +kernel
theorem dX10_thing_20 : decode cX10_thing 20 = .ok (.ireturn, 1) := by decide +kernel
theorem dX10_thing_21 : decode cX10_thing 21 = .ok (.aload_n 0, 1) := by decide +kernel
theorem dX10_thing_22 : decode cX10_thing 22 = .ok (.invokevirtual 99, 3) := by decide +kernel
theorem dX10_thing_25 : decode cX10_thing 25 = .ok (.aload_n 0, 1) := by decide +kernel
theorem dX10_thing_26 : decode cX10_thing 26 = .ok (.getfield 12, 3) := by decide +kernel
theorem dX10_thing_29 : decode cX10_thing 29 = .ok (.invokevirtual 102, 3) := by decide +kernel
theorem dX10_thing_32 : decode cX10_thing 32 = .ok (.ireturn, 1) := by decide +kernel
set_option maxRecDepth 20000 in
theorem ggX10_of_X10_isThing : GoodIn wsX10_of wsX10_isThing := goodIn_r _ [7, 1, 8, 25, 26, 27, 28, 29, 30, 31, 32, 33, 34, 35, 36, 37, 38, 39, 40, 41, 42, 43, 44, 45, 46, 47, 48, 49, 50] (by decide +kernel) (by decide +kernel)
set_option maxRecDepth 20000 in
theorem gX10_of_X10_isThing : GoodIn wsX10_of (wsV RX10 106 RX10 yX10_isThing wsX10_isThing) := goodIn_app (goodIn_of _ (by decide +kernel)) ggX10_of_X10_isThing
set_option maxRecDepth 20000 in
theorem ggX10_of_X10_isPerson : GoodIn wsX10_of wsX10_isPerson := goodIn_r _ [11] (by decide +kernel) (by decide +kernel)
set_option maxRecDepth 20000 in
theorem gX10_of_X10_isPerson : GoodIn wsX10_of (va_wsS RX10 110 yX10_isPerson wsX10_isPerson) := goodIn_app (goodIn_of _ (by decide +kernel)) ggX10_of_X10_isPerson
set_option maxRecDepth 20000 in
theorem ggX10_of_X10_refuse : GoodIn wsX10_of wsX10_refuse := goodIn_r _ [15, 16, 25, 26, 27, 28, 29, 30, 31, 32, 33, 34, 35, 36, 37, 38, 39, 40, 41] (by decide +kernel) (by decide +kernel)
set_option maxRecDepth 20000 in
theorem gX10_of_X10_refuse : GoodIn wsX10_of (wsV RX10 95 RX10 yX10_refuse wsX10_refuse) := goodIn_app (goodIn_of _ (by decide +kernel)) ggX10_of_X10_refuse
set_option maxRecDepth 20000 in
theorem ggX10_of_X10_changed : GoodIn wsX10_of wsX10_changed := goodIn_r _ [20, 21, 22, 23, 24, 25, 26, 27, 28, 29, 30, 31, 32, 33, 34, 35, 36, 37, 38, 39, 40, 41] (by decide +kernel) (by decide +kernel)
set_option maxRecDepth 20000 in
theorem gX10_of_X10_changed : GoodIn wsX10_of (wsV RX10 99 RX10 yX10_changed wsX10_changed) := goodIn_app (goodIn_of _ (by decide +kernel)) ggX10_of_X10_changed
theorem dX10_of_0 : decode cX10_of 0 = .ok (.aload_n 0, 1) := by decide +kernel
theorem dX10_of_1 : decode cX10_of 1 = .ok (.iload_n 1, 1) := by decide +kernel
theorem dX10_of_2 : decode cX10_of 2 = .ok (.invokevirtual 106, 3) := by decide +kernel
theorem dX10_of_5 : decode cX10_of 5 = .ok (.ifCond .eq 15, 3) := by decide +kernel
theorem dX10_of_8 : decode cX10_of 8 = .ok (.iload_n 2, 1) := by decide +kernel
theorem dX10_of_9 : decode cX10_of 9 = .ok (.iconst (-1), 1) := by decide +kernel
theorem dX10_of_10 : decode cX10_of 10 = .ok (.if_icmp .eq 19, 3) := by decide +kernel
theorem dX10_of_13 : decode cX10_of 13 = .ok (.iload_n 2, 1) := by decide +kernel
theorem dX10_of_14 : decode cX10_of 14 = .ok (.invokestatic 110, 3) := by decide +kernel
theorem dX10_of_17 : decode cX10_of 17 = .ok (.ifCond .ne 12, 3) := by decide +kernel
theorem dX10_of_20 : decode cX10_of 20 = .ok (.aload_n 0, 1) := by decide +kernel
theorem dX10_of_21 : decode cX10_of 21 = .ok (.bipush (-2), 2) := by decide +kernel
theorem dX10_of_23 : decode cX10_of 23 = .ok (.bipush (-10), 2) := by decide +kernel
theorem dX10_of_25 : decode cX10_of 25 = .ok (.invokevirtual 95, 3) := by decide +kernel
theorem dX10_of_28 : decode cX10_of 28 = .ok (.ireturn, 1) := by decide +kernel
theorem dX10_of_29 : decode cX10_of 29 = .ok (.aload_n 0, 1) := by decide +kernel
theorem dX10_of_30 : decode cX10_of 30 = .ok (.getfield 12, 3) := by decide +kernel
theorem dX10_of_33 : decode cX10_of 33 = .ok (.getfield 113, 3) := by decide +kernel
theorem dX10_of_36 : decode cX10_of 36 = .ok (.iload_n 1, 1) := by decide +kernel
theorem dX10_of_37 : decode cX10_of 37 = .ok (.iaload, 1) := by decide +kernel
theorem dX10_of_38 : decode cX10_of 38 = .ok (.istore_n 3, 1) := by decide +kernel
theorem dX10_of_39 : decode cX10_of 39 = .ok (.aload_n 0, 1) := by decide +kernel
theorem dX10_of_40 : decode cX10_of 40 = .ok (.getfield 12, 3) := by decide +kernel
theorem dX10_of_43 : decode cX10_of 43 = .ok (.getfield 113, 3) := by decide +kernel
theorem dX10_of_46 : decode cX10_of 46 = .ok (.iload_n 1, 1) := by decide +kernel
theorem dX10_of_47 : decode cX10_of 47 = .ok (.iload_n 2, 1) := by decide +kernel
theorem dX10_of_48 : decode cX10_of 48 = .ok (.iastore, 1) := by decide +kernel
theorem dX10_of_49 : decode cX10_of 49 = .ok (.aload_n 0, 1) := by decide +kernel
theorem dX10_of_50 : decode cX10_of 50 = .ok (.invokevirtual 99, 3) := by decide +kernel
theorem dX10_of_53 : decode cX10_of 53 = .ok (.iload_n 3, 1) := by decide +kernel
theorem dX10_of_54 : decode cX10_of 54 = .ok (.ireturn, 1) := by decide +kernel
set_option maxRecDepth 20000 in
theorem ggX10_story_X10_isThing : GoodIn wsX10_story wsX10_isThing := goodIn_r _ [7, 1, 8, 25, 26, 27, 28, 29, 30, 31, 32, 33, 34, 35, 36, 37, 38, 39, 40, 41, 42, 43, 44, 45, 46, 47, 48, 49, 50] (by decide +kernel) (by decide +kernel)
set_option maxRecDepth 20000 in
theorem gX10_story_X10_isThing : GoodIn wsX10_story (wsV RX10 106 RX10 yX10_isThing wsX10_isThing) := goodIn_app (goodIn_of _ (by decide +kernel)) ggX10_story_X10_isThing
set_option maxRecDepth 20000 in
theorem ggX10_story_X10_isEither : GoodIn wsX10_story wsX10_isEither := goodIn_r _ [11] (by decide +kernel) (by decide +kernel)
set_option maxRecDepth 20000 in
theorem gX10_story_X10_isEither : GoodIn wsX10_story (va_wsS RX10 116 yX10_isEither wsX10_isEither) := goodIn_app (goodIn_of _ (by decide +kernel)) ggX10_story_X10_isEither
set_option maxRecDepth 20000 in
theorem ggX10_story_X10_refuse : GoodIn wsX10_story wsX10_refuse := goodIn_r _ [15, 16, 25, 26, 27, 28, 29, 30, 31, 32, 33, 34, 35, 36, 37, 38, 39, 40, 41] (by decide +kernel) (by decide +kernel)
set_option maxRecDepth 20000 in
theorem gX10_story_X10_refuse : GoodIn wsX10_story (wsV RX10 95 RX10 yX10_refuse wsX10_refuse) := goodIn_app (goodIn_of _ (by decide +kernel)) ggX10_story_X10_refuse
set_option maxRecDepth 20000 in
theorem ggX10_story_X10_changed : GoodIn wsX10_story wsX10_changed := goodIn_r _ [20, 21, 22, 23, 24, 25, 26, 27, 28, 29, 30, 31, 32, 33, 34, 35, 36, 37, 38, 39, 40, 41] (by decide +kernel) (by decide +kernel)
set_option maxRecDepth 20000 in
theorem gX10_story_X10_changed : GoodIn wsX10_story (wsV RX10 99 RX10 yX10_changed wsX10_changed) := goodIn_app (goodIn_of _ (by decide +kernel)) ggX10_story_X10_changed
theorem dX10_story_0 : decode cX10_story 0 = .ok (.aload_n 0, 1) := by decide +kernel
theorem dX10_story_1 : decode cX10_story 1 = .ok (.iload_n 1, 1) := by decide +kernel
theorem dX10_story_2 : decode cX10_story 2 = .ok (.invokevirtual 106, 3) := by decide +kernel
theorem dX10_story_5 : decode cX10_story 5 = .ok (.ifCond .eq 10, 3) := by decide +kernel
theorem dX10_story_8 : decode cX10_story 8 = .ok (.iload_n 2, 1) := by decide +kernel
theorem dX10_story_9 : decode cX10_story 9 = .ok (.invokestatic 116, 3) := by decide +kernel
theorem dX10_story_12 : decode cX10_story 12 = .ok (.ifCond .ne 12, 3) := by decide +kernel
theorem dX10_story_15 : decode cX10_story 15 = .ok (.aload_n 0, 1) := by decide +kernel
theorem dX10_story_16 : decode cX10_story 16 = .ok (.bipush (-2), 2) := by decide +kernel
theorem dX10_story_18 : decode cX10_story 18 = .ok (.bipush (-2), 2) := by decide +kernel
theorem dX10_story_20 : decode cX10_story 20 = .ok (.invokevirtual 95, 3) := by decide +kernel
theorem dX10_story_23 : decode cX10_story 23 = .ok (.ireturn, 1) := by decide +kernel
theorem dX10_story_24 : decode cX10_story 24 = .ok (.aload_n 0, 1) := by decide +kernel
theorem dX10_story_25 : decode cX10_story 25 = .ok (.getfield 12, 3) := by decide +kernel
theorem dX10_story_28 : decode cX10_story 28 = .ok (.getfield 119, 3) := by decide +kernel
theorem dX10_story_31 : decode cX10_story 31 = .ok (.iload_n 1, 1) := by decide +kernel
theorem dX10_story_32 : decode cX10_story 32 = .ok (.iaload, 1) := by decide +kernel
theorem dX10_story_33 : decode cX10_story 33 = .ok (.istore_n 3, 1) := by decide +kernel
theorem dX10_story_34 : decode cX10_story 34 = .ok (.aload_n 0, 1) := by decide +kernel
theorem dX10_story_35 : decode cX10_story 35 = .ok (.getfield 12, 3) := by decide +kernel
theorem dX10_story_38 : decode cX10_story 38 = .ok (.getfield 119, 3) := by decide +kernel
theorem dX10_story_41 : decode cX10_story 41 = .ok (.iload_n 1, 1) := by decide +kernel
theorem dX10_story_42 : decode cX10_story 42 = .ok (.iload_n 2, 1) := by decide +kernel
theorem dX10_story_43 : decode cX10_story 43 = .ok (.iastore, 1) := by decide +kernel
theorem dX10_story_44 : decode cX10_story 44 = .ok (.aload_n 0, 1) := by decide +kernel
theorem dX10_story_45 : decode cX10_story 45 = .ok (.invokevirtual 99, 3) := by decide +kernel
theorem dX10_story_48 : decode cX10_story 48 = .ok (.iload_n 3, 1) := by decide +kernel
theorem dX10_story_49 : decode cX10_story 49 = .ok (.ireturn, 1) := by decide +kernel
set_option maxRecDepth 20000 in
theorem ggX10_say_X10_areTwoThings : GoodIn wsX10_say wsX10_areTwoThings := goodIn_r _ [7, 8, 9, 10, 6, 11, 1, 12, 39, 40, 41, 42, 43, 44, 45, 46, 47, 48, 49, 50, 51, 52, 53, 54, 55, 56, 57, 58, 59, 60, 61, 62, 63, 64] (by decide +kernel) (by decide +kernel)
set_option maxRecDepth 20000 in
theorem gX10_say_X10_areTwoThings : GoodIn wsX10_say (wsV RX10 122 RX10 yX10_areTwoThings wsX10_areTwoThings) := goodIn_app (goodIn_of _ (by decide +kernel)) ggX10_say_X10_areTwoThings
set_option maxRecDepth 20000 in
theorem ggX10_say_X10_isPerson : GoodIn wsX10_say wsX10_isPerson := goodIn_r _ [15] (by decide +kernel) (by decide +kernel)
set_option maxRecDepth 20000 in
theorem gX10_say_X10_isPerson : GoodIn wsX10_say (va_wsS RX10 110 yX10_isPerson wsX10_isPerson) := goodIn_app (goodIn_of _ (by decide +kernel)) ggX10_say_X10_isPerson
set_option maxRecDepth 20000 in
theorem ggX10_say_X10_refuse : GoodIn wsX10_say wsX10_refuse := goodIn_r _ [19, 20, 39, 40, 41, 42, 43, 44, 45, 46, 47, 48, 49, 50, 51, 52, 53, 54, 55] (by decide +kernel) (by decide +kernel)
set_option maxRecDepth 20000 in
theorem gX10_say_X10_refuse : GoodIn wsX10_say (wsV RX10 95 RX10 yX10_refuse wsX10_refuse) := goodIn_app (goodIn_of _ (by decide +kernel)) ggX10_say_X10_refuse
set_option maxRecDepth 20000 in
theorem ggX10_say_X10_changed : GoodIn wsX10_say wsX10_changed := goodIn_r _ [24, 25, 26, 27, 28, 39, 40, 41, 42, 43, 44, 45, 46, 47, 48, 49, 50, 51, 52, 53, 54, 55] (by decide +kernel) (by decide +kernel)
set_option maxRecDepth 20000 in
theorem gX10_say_X10_changed : GoodIn wsX10_say (wsV RX10 99 RX10 yX10_changed wsX10_changed) := goodIn_app (goodIn_of _ (by decide +kernel)) ggX10_say_X10_changed
set_option maxRecDepth 20000 in
theorem ggX10_say_X4_addSaying : GoodIn wsX10_say wsX4_addSaying := goodIn_r _ [33, 34, 35, 36, 37, 38, 56, 57, 58, 59, 60, 61, 62, 63, 64] (by decide +kernel) (by decide +kernel)
set_option maxRecDepth 20000 in
theorem gX10_say_X4_addSaying : GoodIn wsX10_say (wsV RX10 129 RX4 yX4_addSaying wsX4_addSaying) := goodIn_app (goodIn_of _ (by decide +kernel)) ggX10_say_X4_addSaying
theorem dX10_say_0 : decode cX10_say 0 = .ok (.aload_n 0, 1) := by decide +kernel
theorem dX10_say_1 : decode cX10_say 1 = .ok (.iload_n 1, 1) := by decide +kernel
theorem dX10_say_2 : decode cX10_say 2 = .ok (.iload_n 3, 1) := by decide +kernel
theorem dX10_say_3 : decode cX10_say 3 = .ok (.invokevirtual 122, 3) := by decide +kernel
theorem dX10_say_6 : decode cX10_say 6 = .ok (.ifCond .eq 21, 3) := by decide +kernel
theorem dX10_say_9 : decode cX10_say 9 = .ok (.iload_n 2, 1) := by decide +kernel
theorem dX10_say_10 : decode cX10_say 10 = .ok (.ifCond .lt 17, 3) := by decide +kernel
theorem dX10_say_13 : decode cX10_say 13 = .ok (.iload_n 2, 1) := by decide +kernel
theorem dX10_say_14 : decode cX10_say 14 = .ok (.bipush 7, 2) := by decide +kernel
theorem dX10_say_16 : decode cX10_say 16 = .ok (.if_icmp .gt 11, 3) := by decide +kernel
theorem dX10_say_19 : decode cX10_say 19 = .ok (.iload 4, 2) := by decide +kernel
theorem dX10_say_21 : decode cX10_say 21 = .ok (.invokestatic 110, 3) := by decide +kernel
theorem dX10_say_24 : decode cX10_say 24 = .ok (.ifCond .ne 12, 3) := by decide +kernel
theorem dX10_say_27 : decode cX10_say 27 = .ok (.aload_n 0, 1) := by decide +kernel
theorem dX10_say_28 : decode cX10_say 28 = .ok (.bipush (-2), 2) := by decide +kernel
theorem dX10_say_30 : decode cX10_say 30 = .ok (.bipush (-2), 2) := by decide +kernel
theorem dX10_say_32 : decode cX10_say 32 = .ok (.invokevirtual 95, 3) := by decide +kernel
theorem dX10_say_35 : decode cX10_say 35 = .ok (.ireturn, 1) := by decide +kernel
theorem dX10_say_36 : decode cX10_say 36 = .ok (.aload_n 0, 1) := by decide +kernel
theorem dX10_say_37 : decode cX10_say 37 = .ok (.getfield 12, 3) := by decide +kernel
theorem dX10_say_40 : decode cX10_say 40 = .ok (.getfield 126, 3) := by decide +kernel
theorem dX10_say_43 : decode cX10_say 43 = .ok (.bipush 8, 2) := by decide +kernel
theorem dX10_say_45 : decode cX10_say 45 = .ok (.if_icmp .lt 12, 3) := by decide +kernel
theorem dX10_say_48 : decode cX10_say 48 = .ok (.aload_n 0, 1) := by decide +kernel
theorem dX10_say_49 : decode cX10_say 49 = .ok (.bipush (-4), 2) := by decide +kernel
theorem dX10_say_51 : decode cX10_say 51 = .ok (.bipush (-4), 2) := by decide +kernel
theorem dX10_say_53 : decode cX10_say 53 = .ok (.invokevirtual 95, 3) := by decide +kernel
theorem dX10_say_56 : decode cX10_say 56 = .ok (.ireturn, 1) := by decide +kernel
theorem dX10_say_57 : decode cX10_say 57 = .ok (.aload_n 0, 1) := by decide +kernel
theorem dX10_say_58 : decode cX10_say 58 = .ok (.invokevirtual 99, 3) := by decide +kernel
theorem dX10_say_61 : decode cX10_say 61 = .ok (.aload_n 0, 1) := by decide +kernel
theorem dX10_say_62 : decode cX10_say 62 = .ok (.getfield 12, 3) := by decide +kernel
theorem dX10_say_65 : decode cX10_say 65 = .ok (.iload_n 1, 1) := by decide +kernel
theorem dX10_say_66 : decode cX10_say 66 = .ok (.iload_n 2, 1) := by decide +kernel
theorem dX10_say_67 : decode cX10_say 67 = .ok (.iload_n 3, 1) := by decide +kernel
theorem dX10_say_68 : decode cX10_say 68 = .ok (.iload 4, 2) := by decide +kernel
theorem dX10_say_70 : decode cX10_say 70 = .ok (.invokevirtual 129, 3) := by decide +kernel
theorem dX10_say_73 : decode cX10_say 73 = .ok (.ireturn, 1) := by decide +kernel
set_option maxRecDepth 20000 in
theorem ggX10_unsay_X10_refuse : GoodIn wsX10_unsay wsX10_refuse := goodIn_r _ [7, 8, 17, 18, 19, 20, 21, 22, 23, 24, 25, 26, 27, 28, 29, 30, 31, 32, 33] (by decide +kernel) (by decide +kernel)
set_option maxRecDepth 20000 in
theorem gX10_unsay_X10_refuse : GoodIn wsX10_unsay (wsV RX10 95 RX10 yX10_refuse wsX10_refuse) := goodIn_app (goodIn_of _ (by decide +kernel)) ggX10_unsay_X10_refuse
set_option maxRecDepth 20000 in
theorem ggX10_unsay_X10_changed : GoodIn wsX10_unsay wsX10_changed := goodIn_r _ [12, 13, 14, 15, 16, 17, 18, 19, 20, 21, 22, 23, 24, 25, 26, 27, 28, 29, 30, 31, 32, 33] (by decide +kernel) (by decide +kernel)
set_option maxRecDepth 20000 in
theorem gX10_unsay_X10_changed : GoodIn wsX10_unsay (wsV RX10 99 RX10 yX10_changed wsX10_changed) := goodIn_app (goodIn_of _ (by decide +kernel)) ggX10_unsay_X10_changed
theorem dX10_unsay_0 : decode cX10_unsay 0 = .ok (.aload_n 0, 1) := by decide +kernel
theorem dX10_unsay_1 : decode cX10_unsay 1 = .ok (.getfield 12, 3) := by decide +kernel
theorem dX10_unsay_4 : decode cX10_unsay 4 = .ok (.getfield 126, 3) := by decide +kernel
theorem dX10_unsay_7 : decode cX10_unsay 7 = .ok (.ifCond .ne 12, 3) := by decide +kernel
theorem dX10_unsay_10 : decode cX10_unsay 10 = .ok (.aload_n 0, 1) := by decide +kernel
theorem dX10_unsay_11 : decode cX10_unsay 11 = .ok (.bipush (-3), 2) := by decide +kernel
theorem dX10_unsay_13 : decode cX10_unsay 13 = .ok (.bipush (-3), 2) := by decide +kernel
theorem dX10_unsay_15 : decode cX10_unsay 15 = .ok (.invokevirtual 95, 3) := by decide +kernel
theorem dX10_unsay_18 : decode cX10_unsay 18 = .ok (.ireturn, 1) := by decide +kernel
theorem dX10_unsay_19 : decode cX10_unsay 19 = .ok (.aload_n 0, 1) := by decide +kernel
theorem dX10_unsay_20 : decode cX10_unsay 20 = .ok (.getfield 12, 3) := by decide +kernel
theorem dX10_unsay_23 : decode cX10_unsay 23 = .ok (.dup, 1) := by decide +kernel
theorem dX10_unsay_24 : decode cX10_unsay 24 = .ok (.getfield 126, 3) := by decide +kernel
theorem dX10_unsay_27 : decode cX10_unsay 27 = .ok (.iconst 1, 1) := by decide +kernel
theorem dX10_unsay_28 : decode cX10_unsay 28 = .ok (.isub, 1) := by decide +kernel
theorem dX10_unsay_29 : decode cX10_unsay 29 = .ok (.putfield 126, 3) := by decide +kernel
theorem dX10_unsay_32 : decode cX10_unsay 32 = .ok (.aload_n 0, 1) := by decide +kernel
theorem dX10_unsay_33 : decode cX10_unsay 33 = .ok (.invokevirtual 99, 3) := by decide +kernel
theorem dX10_unsay_36 : decode cX10_unsay 36 = .ok (.aload_n 0, 1) := by decide +kernel
theorem dX10_unsay_37 : decode cX10_unsay 37 = .ok (.getfield 12, 3) := by decide +kernel
theorem dX10_unsay_40 : decode cX10_unsay 40 = .ok (.getfield 126, 3) := by decide +kernel
theorem dX10_unsay_43 : decode cX10_unsay 43 = .ok (.ireturn, 1) := by decide +kernel
set_option maxRecDepth 20000 in
theorem ggX10_type_X10_refuse : GoodIn wsX10_type wsX10_refuse := goodIn_r _ [7, 8, 16, 17, 18, 19, 20, 21, 22, 23, 24, 25, 26, 27, 28, 29, 30, 31, 32] (by decide +kernel) (by decide +kernel)
set_option maxRecDepth 20000 in
theorem gX10_type_X10_refuse : GoodIn wsX10_type (wsV RX10 95 RX10 yX10_refuse wsX10_refuse) := goodIn_app (goodIn_of _ (by decide +kernel)) ggX10_type_X10_refuse
set_option maxRecDepth 20000 in
theorem ggX10_type_X6_add : GoodIn wsX10_type wsX6_add := goodIn_r _ [13, 14, 15, 33, 34] (by decide +kernel) (by decide +kernel)
set_option maxRecDepth 20000 in
theorem gX10_type_X6_add : GoodIn wsX10_type (wsV RX10 136 RX6 yX6_add wsX6_add) := goodIn_app (goodIn_of _ (by decide +kernel)) ggX10_type_X6_add
theorem dX10_type_0 : decode cX10_type 0 = .ok (.iload_n 3, 1) := by decide +kernel
theorem dX10_type_1 : decode cX10_type 1 = .ok (.iconst 1, 1) := by decide +kernel
theorem dX10_type_2 : decode cX10_type 2 = .ok (.if_icmp .lt 9, 3) := by decide +kernel
theorem dX10_type_5 : decode cX10_type 5 = .ok (.iload_n 3, 1) := by decide +kernel
theorem dX10_type_6 : decode cX10_type 6 = .ok (.bipush 8, 2) := by decide +kernel
theorem dX10_type_8 : decode cX10_type 8 = .ok (.if_icmp .le 12, 3) := by decide +kernel
theorem dX10_type_11 : decode cX10_type 11 = .ok (.aload_n 0, 1) := by decide +kernel
theorem dX10_type_12 : decode cX10_type 12 = .ok (.bipush (-2), 2) := by decide +kernel
theorem dX10_type_14 : decode cX10_type 14 = .ok (.bipush (-2), 2) := by decide +kernel
theorem dX10_type_16 : decode cX10_type 16 = .ok (.invokevirtual 95, 3) := by decide +kernel
theorem dX10_type_19 : decode cX10_type 19 = .ok (.ireturn, 1) := by decide +kernel
theorem dX10_type_20 : decode cX10_type 20 = .ok (.aload_n 0, 1) := by decide +kernel
theorem dX10_type_21 : decode cX10_type 21 = .ok (.getfield 27, 3) := by decide +kernel
theorem dX10_type_24 : decode cX10_type 24 = .ok (.getfield 133, 3) := by decide +kernel
theorem dX10_type_27 : decode cX10_type 27 = .ok (.iload_n 3, 1) := by decide +kernel
theorem dX10_type_28 : decode cX10_type 28 = .ok (.iadd, 1) := by decide +kernel
theorem dX10_type_29 : decode cX10_type 29 = .ok (.sipush 200, 3) := by decide +kernel
theorem dX10_type_32 : decode cX10_type 32 = .ok (.if_icmp .le 12, 3) := by decide +kernel
theorem dX10_type_35 : decode cX10_type 35 = .ok (.aload_n 0, 1) := by decide +kernel
theorem dX10_type_36 : decode cX10_type 36 = .ok (.bipush (-4), 2) := by decide +kernel
theorem dX10_type_38 : decode cX10_type 38 = .ok (.bipush (-4), 2) := by decide +kernel
theorem dX10_type_40 : decode cX10_type 40 = .ok (.invokevirtual 95, 3) := by decide +kernel
theorem dX10_type_43 : decode cX10_type 43 = .ok (.ireturn, 1) := by decide +kernel
theorem dX10_type_44 : decode cX10_type 44 = .ok (.aload_n 0, 1) := by decide +kernel
theorem dX10_type_45 : decode cX10_type 45 = .ok (.getfield 27, 3) := by decide +kernel
theorem dX10_type_48 : decode cX10_type 48 = .ok (.lload_n 1, 1) := by decide +kernel
theorem dX10_type_49 : decode cX10_type 49 = .ok (.iload_n 3, 1) := by decide +kernel
theorem dX10_type_50 : decode cX10_type 50 = .ok (.invokevirtual 136, 3) := by decide +kernel
theorem dX10_type_53 : decode cX10_type 53 = .ok (.aload_n 0, 1) := by decide +kernel
theorem dX10_type_54 : decode cX10_type 54 = .ok (.getfield 27, 3) := by decide +kernel
theorem dX10_type_57 : decode cX10_type 57 = .ok (.getfield 133, 3) := by decide +kernel
theorem dX10_type_60 : decode cX10_type 60 = .ok (.ireturn, 1) := by decide +kernel
theorem dX10_clear_0 : decode cX10_clear 0 = .ok (.aload_n 0, 1) := by decide +kernel
theorem dX10_clear_1 : decode cX10_clear 1 = .ok (.getfield 27, 3) := by decide +kernel
theorem dX10_clear_4 : decode cX10_clear 4 = .ok (.getfield 133, 3) := by decide +kernel
theorem dX10_clear_7 : decode cX10_clear 7 = .ok (.istore_n 1, 1) := by decide +kernel
theorem dX10_clear_8 : decode cX10_clear 8 = .ok (.aload_n 0, 1) := by decide +kernel
theorem dX10_clear_9 : decode cX10_clear 9 = .ok (.getfield 27, 3) := by decide +kernel
theorem dX10_clear_12 : decode cX10_clear 12 = .ok (.iconst 0, 1) := by decide +kernel
theorem dX10_clear_13 : decode cX10_clear 13 = .ok (.putfield 133, 3) := by decide +kernel
theorem dX10_clear_16 : decode cX10_clear 16 = .ok (.iload_n 1, 1) := by decide +kernel
theorem dX10_clear_17 : decode cX10_clear 17 = .ok (.ireturn, 1) := by decide +kernel
set_option maxRecDepth 20000 in
theorem ggX10_read_X8_faultIn : GoodIn wsX10_read wsX8_faultIn := goodIn_r _ [10, 11, 12, 13, 14, 15, 16, 17, 18, 19, 20, 21, 22, 23, 24, 25, 9, 26, 27, 28, 29, 30, 31, 32, 33, 34, 35, 36, 37, 38, 39, 40, 41, 42, 43, 44, 45, 46, 47, 48, 49, 50, 51, 52, 53, 54, 55, 56, 57, 58, 59, 60, 61, 62, 63, 64, 65, 66, 67, 68, 69, 70, 71, 72, 73, 74, 75, 76, 77, 78, 79, 80, 81, 82, 83, 84, 85, 86, 87, 88, 89, 90, 91, 92, 93, 94, 95, 96, 97, 98, 99, 100, 101, 102, 103, 104, 105, 106, 107, 108, 109, 110, 111, 112, 113, 114, 115, 116, 117, 118, 119, 120, 121, 122, 123, 124, 125, 126, 127, 128, 129, 130, 131, 132, 133, 134, 135, 136, 137, 138, 139, 140, 141, 142, 143, 144, 145, 146, 147, 148, 149, 150, 151, 152, 182, 183, 184, 185, 186, 187, 188, 189, 190, 191, 192, 193, 194, 195, 196, 197, 198] (by decide +kernel) (by decide +kernel)
set_option maxRecDepth 20000 in
theorem gX10_read_X8_faultIn : GoodIn wsX10_read (wsV RX10 140 RX8 yX8_faultIn wsX8_faultIn) := goodIn_app (goodIn_of _ (by decide +kernel)) ggX10_read_X8_faultIn
set_option maxRecDepth 20000 in
theorem ggX10_read_X4_copy : GoodIn wsX10_read wsX4_copy := goodIn_r _ [156, 21, 22, 114, 115, 116, 140, 139, 141, 142, 188, 189, 190, 191, 192, 193, 194, 195, 196] (by decide +kernel) (by decide +kernel)
set_option maxRecDepth 20000 in
theorem gX10_read_X4_copy : GoodIn wsX10_read (wsV RX10 147 RX4 yX4_copy wsX4_copy) := goodIn_app (goodIn_of _ (by decide +kernel)) ggX10_read_X4_copy
set_option maxRecDepth 20000 in
theorem ggX10_read_X10_changed : GoodIn wsX10_read wsX10_changed := goodIn_r _ [160, 161, 162, 163, 164, 165, 166, 167, 168, 169, 170, 171, 172, 173, 174, 175, 176, 177, 178, 179, 180, 181] (by decide +kernel) (by decide +kernel)
set_option maxRecDepth 20000 in
theorem gX10_read_X10_changed : GoodIn wsX10_read (wsV RX10 99 RX10 yX10_changed wsX10_changed) := goodIn_app (goodIn_of _ (by decide +kernel)) ggX10_read_X10_changed
theorem dX10_read_0 : decode cX10_read 0 = .ok (.aload_n 0, 1) := by decide +kernel
theorem dX10_read_1 : decode cX10_read 1 = .ok (.getfield 34, 3) := by decide +kernel
theorem dX10_read_4 : decode cX10_read 4 = .ok (.aload_n 0, 1) := by decide +kernel
theorem dX10_read_5 : decode cX10_read 5 = .ok (.getfield 27, 3) := by decide +kernel
theorem dX10_read_8 : decode cX10_read 8 = .ok (.invokevirtual 140, 3) := by decide +kernel
theorem dX10_read_11 : decode cX10_read 11 = .ok (.istore_n 1, 1) := by decide +kernel
theorem dX10_read_12 : decode cX10_read 12 = .ok (.iload_n 1, 1) := by decide +kernel
theorem dX10_read_13 : decode cX10_read 13 = .ok (.iconst (-1), 1) := by decide +kernel
theorem dX10_read_14 : decode cX10_read 14 = .ok (.if_icmp .eq 8, 3) := by decide +kernel
theorem dX10_read_17 : decode cX10_read 17 = .ok (.bipush (-10), 2) := by decide +kernel
theorem dX10_read_19 : decode cX10_read 19 = .ok (.iload_n 1, 1) := by decide +kernel
theorem dX10_read_20 : decode cX10_read 20 = .ok (.isub, 1) := by decide +kernel
theorem dX10_read_21 : decode cX10_read 21 = .ok (.ireturn, 1) := by decide +kernel
theorem dX10_read_22 : decode cX10_read 22 = .ok (.aload_n 0, 1) := by decide +kernel
theorem dX10_read_23 : decode cX10_read 23 = .ok (.getfield 12, 3) := by decide +kernel
theorem dX10_read_26 : decode cX10_read 26 = .ok (.aload_n 0, 1) := by decide +kernel
theorem dX10_read_27 : decode cX10_read 27 = .ok (.getfield 34, 3) := by decide +kernel
theorem dX10_read_30 : decode cX10_read 30 = .ok (.getfield 144, 3) := by decide +kernel
theorem dX10_read_33 : decode cX10_read 33 = .ok (.invokevirtual 147, 3) := by decide +kernel
theorem dX10_read_36 : decode cX10_read 36 = .ok (.aload_n 0, 1) := by decide +kernel
theorem dX10_read_37 : decode cX10_read 37 = .ok (.invokevirtual 99, 3) := by decide +kernel
theorem dX10_read_40 : decode cX10_read 40 = .ok (.aload_n 0, 1) := by decide +kernel
theorem dX10_read_41 : decode cX10_read 41 = .ok (.getfield 12, 3) := by decide +kernel
theorem dX10_read_44 : decode cX10_read 44 = .ok (.getfield 126, 3) := by decide +kernel
theorem dX10_read_47 : decode cX10_read 47 = .ok (.ireturn, 1) := by decide +kernel
set_option maxRecDepth 20000 in
theorem ggX10_fits_X10_find : GoodIn wsX10_fits wsX10_find := goodIn_r _ [7, 8, 9, 10, 11, 12, 13, 1, 14, 15, 16, 17, 18, 19, 20, 21, 22, 23, 24, 25, 26, 27, 28, 29, 30, 31, 32, 33, 34, 35, 36, 37, 38, 39, 40, 41, 42, 43, 44, 45, 46, 47, 48, 49, 50, 51, 52, 53, 54, 55, 56, 57, 58, 59, 60, 61, 62, 63, 64, 65, 66, 67, 68, 6, 69, 70, 71, 72, 73, 74, 75, 76, 77, 78, 79, 80, 81, 82, 83, 84, 85, 86, 87, 88, 89, 90, 91, 92, 93, 94, 95, 96, 97, 98, 99, 100, 101, 102, 103, 104, 105, 106, 107, 108, 109, 110, 111, 112, 113, 114, 115, 116, 117, 118, 119, 120, 121, 122, 123, 124, 125, 126, 127, 128, 129, 130, 131, 132, 133, 134, 135, 136, 137, 138, 139, 140, 141, 142, 143, 144, 145, 146, 147, 148, 149, 150, 151, 152, 153, 154, 155, 156, 157, 158, 166, 167, 168, 169, 170, 171, 172, 173, 174, 175, 176, 177, 178, 179, 180, 181, 182, 183, 184, 185, 186, 187, 188, 189, 190, 191, 192, 193, 159, 160, 161, 162, 163, 164, 165] (by decide +kernel) (by decide +kernel)
set_option maxRecDepth 20000 in
theorem gX10_fits_X10_find : GoodIn wsX10_fits (wsV RX10 151 RX10 yX10_find wsX10_find) := goodIn_app (goodIn_of _ (by decide +kernel)) ggX10_fits_X10_find
theorem dX10_fits_0 : decode cX10_fits 0 = .ok (.aload_n 0, 1) := by decide +kernel
theorem dX10_fits_1 : decode cX10_fits 1 = .ok (.invokevirtual 151, 3) := by decide +kernel
theorem dX10_fits_4 : decode cX10_fits 4 = .ok (.aload_n 0, 1) := by decide +kernel
theorem dX10_fits_5 : decode cX10_fits 5 = .ok (.getfield 66, 3) := by decide +kernel
theorem dX10_fits_8 : decode cX10_fits 8 = .ok (.getfield 154, 3) := by decide +kernel
theorem dX10_fits_11 : decode cX10_fits 11 = .ok (.lreturn, 1) := by decide +kernel
set_option maxRecDepth 20000 in
theorem ggX10_first_X10_isEnd : GoodIn wsX10_first wsX10_isEnd := goodIn_r _ [7, 8, 9, 156, 157, 158, 159, 160, 161, 162, 163, 164, 165, 166, 167, 168, 169, 170, 171, 172, 180, 181, 182, 183, 184, 185, 186, 187, 188] (by decide +kernel) (by decide +kernel)
set_option maxRecDepth 20000 in
theorem gX10_first_X10_isEnd : GoodIn wsX10_first (wsV RX10 158 RX10 yX10_isEnd wsX10_isEnd) := goodIn_app (goodIn_of _ (by decide +kernel)) ggX10_first_X10_isEnd
set_option maxRecDepth 20000 in
theorem ggX10_first_X10_refuse : GoodIn wsX10_first wsX10_refuse := goodIn_r _ [13, 14, 156, 157, 158, 159, 160, 161, 162, 163, 164, 165, 166, 167, 168, 169, 170, 171, 172] (by decide +kernel) (by decide +kernel)
set_option maxRecDepth 20000 in
theorem gX10_first_X10_refuse : GoodIn wsX10_first (wsV RX10 95 RX10 yX10_refuse wsX10_refuse) := goodIn_app (goodIn_of _ (by decide +kernel)) ggX10_first_X10_refuse
set_option maxRecDepth 20000 in
theorem ggX10_first_X10_hasFit : GoodIn wsX10_first wsX10_hasFit := goodIn_r _ [18, 1, 19, 20, 21, 22, 6, 23, 24, 25, 8, 26, 27, 9, 28, 29, 30, 31, 32, 33, 34, 35, 36, 37, 38, 39, 40, 41, 42, 43, 44, 45, 46, 47, 48, 49, 50, 51, 52, 53, 54, 55, 56, 57, 58, 59, 60, 61, 62, 63, 64, 65, 66, 67, 68, 69, 70, 71, 72, 73, 74, 75, 76, 77, 78, 79, 80, 81, 82, 83, 84, 85, 86, 87, 88, 89, 90, 91, 92, 93, 94, 95, 96, 97, 98, 99, 100, 101, 102, 103, 104, 105, 106, 107, 108, 109, 110, 111, 112, 113, 114, 115, 116, 117, 118, 119, 120, 121, 122, 123, 124, 125, 126, 127, 128, 129, 130, 131, 132, 133, 134, 135, 136, 137, 138, 139, 140, 141, 142, 143, 144, 145, 146, 147, 148, 149, 150, 151, 152, 153, 154, 155, 156, 157, 158, 159, 160, 161, 162, 163, 164, 165, 166, 167, 168, 169, 170, 171, 172, 173, 174, 175, 176, 177, 178, 179, 180, 181, 182, 183, 184, 185, 186, 187, 188, 189, 190, 191, 192, 193, 194, 195, 196, 197, 198, 199, 200, 201, 202, 203, 204, 205, 206, 207] (by decide +kernel) (by decide +kernel)
set_option maxRecDepth 20000 in
theorem gX10_first_X10_hasFit : GoodIn wsX10_first (wsV RX10 161 RX10 yX10_hasFit wsX10_hasFit) := goodIn_app (goodIn_of _ (by decide +kernel)) ggX10_first_X10_hasFit
theorem dX10_first_0 : decode cX10_first 0 = .ok (.aload_n 0, 1) := by decide +kernel
theorem dX10_first_1 : decode cX10_first 1 = .ok (.iload_n 1, 1) := by decide +kernel
theorem dX10_first_2 : decode cX10_first 2 = .ok (.invokevirtual 158, 3) := by decide +kernel
theorem dX10_first_5 : decode cX10_first 5 = .ok (.ifCond .ne 12, 3) := by decide +kernel
theorem dX10_first_8 : decode cX10_first 8 = .ok (.aload_n 0, 1) := by decide +kernel
theorem dX10_first_9 : decode cX10_first 9 = .ok (.bipush (-2), 2) := by decide +kernel
theorem dX10_first_11 : decode cX10_first 11 = .ok (.bipush (-2), 2) := by decide +kernel
theorem dX10_first_13 : decode cX10_first 13 = .ok (.invokevirtual 95, 3) := by decide +kernel
theorem dX10_first_16 : decode cX10_first 16 = .ok (.ireturn, 1) := by decide +kernel
theorem dX10_first_17 : decode cX10_first 17 = .ok (.aload_n 0, 1) := by decide +kernel
theorem dX10_first_18 : decode cX10_first 18 = .ok (.invokevirtual 161, 3) := by decide +kernel
theorem dX10_first_21 : decode cX10_first 21 = .ok (.ifCond .ne 12, 3) := by decide +kernel
theorem dX10_first_24 : decode cX10_first 24 = .ok (.aload_n 0, 1) := by decide +kernel
theorem dX10_first_25 : decode cX10_first 25 = .ok (.bipush (-3), 2) := by decide +kernel
theorem dX10_first_27 : decode cX10_first 27 = .ok (.bipush (-3), 2) := by decide +kernel
theorem dX10_first_29 : decode cX10_first 29 = .ok (.invokevirtual 95, 3) := by decide +kernel
theorem dX10_first_32 : decode cX10_first 32 = .ok (.ireturn, 1) := by decide +kernel
theorem dX10_first_33 : decode cX10_first 33 = .ok (.aload_n 0, 1) := by decide +kernel
theorem dX10_first_34 : decode cX10_first 34 = .ok (.getfield 66, 3) := by decide +kernel
theorem dX10_first_37 : decode cX10_first 37 = .ok (.getfield 165, 3) := by decide +kernel
theorem dX10_first_40 : decode cX10_first 40 = .ok (.iload_n 1, 1) := by decide +kernel
theorem dX10_first_41 : decode cX10_first 41 = .ok (.iaload, 1) := by decide +kernel
theorem dX10_first_42 : decode cX10_first 42 = .ok (.ireturn, 1) := by decide +kernel
set_option maxRecDepth 20000 in
theorem ggX10_moments_X10_hasFit : GoodIn wsX10_moments wsX10_hasFit := goodIn_r _ [7, 1, 8, 9, 10, 11, 6, 12, 13, 14, 15, 16, 17, 18, 19, 20, 21, 22, 23, 24, 25, 26, 27, 28, 29, 30, 31, 32, 33, 34, 35, 36, 37, 38, 39, 40, 41, 42, 43, 44, 45, 46, 47, 48, 49, 50, 51, 52, 53, 54, 55, 56, 57, 58, 59, 60, 61, 62, 63, 64, 65, 66, 67, 68, 69, 70, 71, 72, 73, 74, 75, 76, 77, 78, 79, 80, 81, 82, 83, 84, 85, 86, 87, 88, 89, 90, 91, 92, 93, 94, 95, 96, 97, 98, 99, 100, 101, 102, 103, 104, 105, 106, 107, 108, 109, 110, 111, 112, 113, 114, 115, 116, 117, 118, 119, 120, 121, 122, 123, 124, 125, 126, 127, 128, 129, 130, 131, 132, 133, 134, 135, 136, 137, 138, 139, 140, 141, 142, 143, 144, 145, 146, 152, 153, 154, 155, 156, 157, 158, 159, 160, 161, 162, 163, 164, 165, 166, 167, 168, 169, 170, 171, 172, 173, 174, 175, 176, 177, 178, 179, 180, 181, 182, 183, 184, 185, 186, 187, 188, 189, 190, 191, 192, 193, 194, 195, 196, 197, 198, 199, 200, 201, 202, 203] (by decide +kernel) (by decide +kernel)
set_option maxRecDepth 20000 in
theorem gX10_moments_X10_hasFit : GoodIn wsX10_moments (wsV RX10 161 RX10 yX10_hasFit wsX10_hasFit) := goodIn_app (goodIn_of _ (by decide +kernel)) ggX10_moments_X10_hasFit
set_option maxRecDepth 20000 in
theorem ggX10_moments_X10_refuse : GoodIn wsX10_moments wsX10_refuse := goodIn_r _ [150, 151, 152, 153, 154, 155, 156, 157, 158, 159, 160, 161, 162, 163, 164, 165, 166, 167, 168] (by decide +kernel) (by decide +kernel)
set_option maxRecDepth 20000 in
theorem gX10_moments_X10_refuse : GoodIn wsX10_moments (wsV RX10 95 RX10 yX10_refuse wsX10_refuse) := goodIn_app (goodIn_of _ (by decide +kernel)) ggX10_moments_X10_refuse
theorem dX10_moments_0 : decode cX10_moments 0 = .ok (.aload_n 0, 1) := by decide +kernel
theorem dX10_moments_1 : decode cX10_moments 1 = .ok (.invokevirtual 161, 3) := by decide +kernel
theorem dX10_moments_4 : decode cX10_moments 4 = .ok (.ifCond .eq 13, 3) := by decide +kernel
theorem dX10_moments_7 : decode cX10_moments 7 = .ok (.aload_n 0, 1) := by decide +kernel
theorem dX10_moments_8 : decode cX10_moments 8 = .ok (.getfield 66, 3) := by decide +kernel
theorem dX10_moments_11 : decode cX10_moments 11 = .ok (.getfield 168, 3) := by decide +kernel
theorem dX10_moments_14 : decode cX10_moments 14 = .ok (.goto 11, 3) := by decide +kernel
theorem dX10_moments_17 : decode cX10_moments 17 = .ok (.aload_n 0, 1) := by decide +kernel
theorem dX10_moments_18 : decode cX10_moments 18 = .ok (.bipush (-3), 2) := by decide +kernel
theorem dX10_moments_20 : decode cX10_moments 20 = .ok (.bipush (-3), 2) := by decide +kernel
theorem dX10_moments_22 : decode cX10_moments 22 = .ok (.invokevirtual 95, 3) := by decide +kernel
theorem dX10_moments_25 : decode cX10_moments 25 = .ok (.ireturn, 1) := by decide +kernel
set_option maxRecDepth 20000 in
theorem ggX10_last_X10_hasFit : GoodIn wsX10_last wsX10_hasFit := goodIn_r _ [9, 1, 10, 11, 12, 13, 8, 14, 15, 16, 3, 17, 18, 4, 19, 20, 21, 22, 23, 24, 25, 26, 27, 28, 29, 30, 31, 32, 33, 34, 35, 36, 37, 38, 39, 40, 41, 42, 43, 44, 45, 46, 47, 48, 49, 50, 51, 52, 53, 54, 55, 56, 57, 58, 59, 60, 61, 62, 63, 64, 65, 66, 67, 68, 69, 70, 71, 72, 73, 74, 75, 76, 77, 78, 79, 80, 81, 82, 83, 84, 85, 86, 87, 88, 89, 90, 91, 92, 93, 94, 95, 96, 97, 98, 99, 100, 101, 102, 103, 104, 105, 106, 107, 108, 109, 110, 111, 112, 113, 114, 115, 116, 117, 118, 119, 120, 121, 122, 123, 124, 125, 126, 127, 128, 129, 130, 131, 132, 133, 134, 135, 136, 137, 138, 139, 140, 141, 142, 143, 144, 145, 146, 156, 157, 158, 159, 160, 161, 162, 163, 164, 165, 166, 167, 168, 169, 170, 171, 172, 173, 174, 175, 176, 177, 178, 179, 180, 181, 182, 183, 184, 185, 186, 187, 188, 189, 190, 191, 192, 193, 194, 195, 196, 197, 198, 199, 200, 201, 202, 203, 204, 205, 206, 207] (by decide +kernel) (by decide +kernel)
set_option maxRecDepth 20000 in
theorem gX10_last_X10_hasFit : GoodIn wsX10_last (wsV RX10 161 RX10 yX10_hasFit wsX10_hasFit) := goodIn_app (goodIn_of _ (by decide +kernel)) ggX10_last_X10_hasFit
set_option maxRecDepth 20000 in
theorem ggX10_last_X10_refuse : GoodIn wsX10_last wsX10_refuse := goodIn_r _ [150, 151, 156, 157, 158, 159, 160, 161, 162, 163, 164, 165, 166, 167, 168, 169, 170, 171, 172] (by decide +kernel) (by decide +kernel)
set_option maxRecDepth 20000 in
theorem gX10_last_X10_refuse : GoodIn wsX10_last (wsV RX10 95 RX10 yX10_refuse wsX10_refuse) := goodIn_app (goodIn_of _ (by decide +kernel)) ggX10_last_X10_refuse
set_option maxRecDepth 20000 in
theorem ggX10_last_X3_lastingBehind : GoodIn wsX10_last wsX3_lastingBehind := goodIn_r _ [155, 142, 173, 174, 175, 176, 177, 178, 179] (by decide +kernel) (by decide +kernel)
set_option maxRecDepth 20000 in
theorem gX10_last_X3_lastingBehind : GoodIn wsX10_last (wsV RX10 171 RX3 yX3_lastingBehind wsX3_lastingBehind) := goodIn_app (goodIn_of _ (by decide +kernel)) ggX10_last_X3_lastingBehind
theorem dX10_last_0 : decode cX10_last 0 = .ok (.aload_n 0, 1) := by decide +kernel
theorem dX10_last_1 : decode cX10_last 1 = .ok (.invokevirtual 161, 3) := by decide +kernel
theorem dX10_last_4 : decode cX10_last 4 = .ok (.ifCond .ne 12, 3) := by decide +kernel
theorem dX10_last_7 : decode cX10_last 7 = .ok (.aload_n 0, 1) := by decide +kernel
theorem dX10_last_8 : decode cX10_last 8 = .ok (.bipush (-3), 2) := by decide +kernel
theorem dX10_last_10 : decode cX10_last 10 = .ok (.bipush (-3), 2) := by decide +kernel
theorem dX10_last_12 : decode cX10_last 12 = .ok (.invokevirtual 95, 3) := by decide +kernel
theorem dX10_last_15 : decode cX10_last 15 = .ok (.ireturn, 1) := by decide +kernel
theorem dX10_last_16 : decode cX10_last 16 = .ok (.iload_n 1, 1) := by decide +kernel
theorem dX10_last_17 : decode cX10_last 17 = .ok (.ifCond .lt 14, 3) := by decide +kernel
theorem dX10_last_20 : decode cX10_last 20 = .ok (.iload_n 1, 1) := by decide +kernel
theorem dX10_last_21 : decode cX10_last 21 = .ok (.aload_n 0, 1) := by decide +kernel
theorem dX10_last_22 : decode cX10_last 22 = .ok (.getfield 66, 3) := by decide +kernel
theorem dX10_last_25 : decode cX10_last 25 = .ok (.getfield 168, 3) := by decide +kernel
theorem dX10_last_28 : decode cX10_last 28 = .ok (.if_icmp .lt 12, 3) := by decide +kernel
theorem dX10_last_31 : decode cX10_last 31 = .ok (.aload_n 0, 1) := by decide +kernel
theorem dX10_last_32 : decode cX10_last 32 = .ok (.bipush (-2), 2) := by decide +kernel
theorem dX10_last_34 : decode cX10_last 34 = .ok (.bipush (-2), 2) := by decide +kernel
theorem dX10_last_36 : decode cX10_last 36 = .ok (.invokevirtual 95, 3) := by decide +kernel
theorem dX10_last_39 : decode cX10_last 39 = .ok (.ireturn, 1) := by decide +kernel
theorem dX10_last_40 : decode cX10_last 40 = .ok (.aload_n 0, 1) := by decide +kernel
theorem dX10_last_41 : decode cX10_last 41 = .ok (.getfield 66, 3) := by decide +kernel
theorem dX10_last_44 : decode cX10_last 44 = .ok (.iload_n 1, 1) := by decide +kernel
theorem dX10_last_45 : decode cX10_last 45 = .ok (.aload_n 0, 1) := by decide +kernel
theorem dX10_last_46 : decode cX10_last 46 = .ok (.getfield 12, 3) := by decide +kernel
theorem dX10_last_49 : decode cX10_last 49 = .ok (.getfield 91, 3) := by decide +kernel
theorem dX10_last_52 : decode cX10_last 52 = .ok (.invokevirtual 171, 3) := by decide +kernel
theorem dX10_last_55 : decode cX10_last 55 = .ok (.ireturn, 1) := by decide +kernel
set_option maxRecDepth 20000 in
theorem ggX10_clash_X10_choose : GoodIn wsX10_clash wsX10_choose := goodIn_r _ [8, 9, 10, 2, 1, 11, 12, 13, 14, 15, 16, 17, 18, 19, 20, 21, 22, 23, 24, 25, 26, 27, 28, 29, 30, 31, 32, 33, 34, 35, 36, 37, 38, 39, 40, 41, 42, 43, 44, 45, 46, 47, 48, 49, 50, 51, 52, 53, 54, 55, 56, 57, 58, 59, 60, 61, 62, 63, 64, 65, 66, 67, 7, 68, 69, 70, 71, 72, 73, 74, 75, 76, 77, 78, 79, 80, 81, 82, 83, 84, 85, 86, 87, 88, 89, 90, 91, 92, 93, 94, 95, 96, 97, 98, 99, 100, 101, 102, 103, 104, 105, 106, 107, 108, 109, 110, 111, 112, 113, 114, 115, 116, 117, 133, 134, 135, 136, 137, 138, 139, 140, 141, 142, 143, 144, 145, 146, 147, 148, 149, 150, 151, 152, 153, 154, 155, 156, 157, 158, 159, 160, 161, 162, 163, 164, 165, 166, 167, 168, 169, 170, 171, 172, 173, 174, 175, 176, 177] (by decide +kernel) (by decide +kernel)
set_option maxRecDepth 20000 in
theorem gX10_clash_X10_choose : GoodIn wsX10_clash (wsV RX10 174 RX10 yX10_choose wsX10_choose) := goodIn_app (goodIn_of _ (by decide +kernel)) ggX10_clash_X10_choose
set_option maxRecDepth 20000 in
theorem ggX10_clash_X0_fewestThatCanNot : GoodIn wsX10_clash wsX0_fewestThatCanNot := goodIn_r _ [121, 122, 123, 124, 61, 125, 63, 66, 126, 127, 128, 129, 130, 131, 132, 171, 172, 173] (by decide +kernel) (by decide +kernel)
set_option maxRecDepth 20000 in
theorem gX10_clash_X0_fewestThatCanNot : GoodIn wsX10_clash (wsV RX10 177 RX0 yX0_fewestThatCanNot wsX0_fewestThatCanNot) := goodIn_app (goodIn_of _ (by decide +kernel)) ggX10_clash_X0_fewestThatCanNot
theorem dX10_clash_0 : decode cX10_clash 0 = .ok (.aload_n 0, 1) := by decide +kernel
theorem dX10_clash_1 : decode cX10_clash 1 = .ok (.invokevirtual 174, 3) := by decide +kernel
theorem dX10_clash_4 : decode cX10_clash 4 = .ok (.aload_n 0, 1) := by decide +kernel
theorem dX10_clash_5 : decode cX10_clash 5 = .ok (.getfield 73, 3) := by decide +kernel
theorem dX10_clash_8 : decode cX10_clash 8 = .ok (.aload_n 0, 1) := by decide +kernel
theorem dX10_clash_9 : decode cX10_clash 9 = .ok (.getfield 12, 3) := by decide +kernel
theorem dX10_clash_12 : decode cX10_clash 12 = .ok (.getfield 126, 3) := by decide +kernel
theorem dX10_clash_15 : decode cX10_clash 15 = .ok (.invokevirtual 177, 3) := by decide +kernel
theorem dX10_clash_18 : decode cX10_clash 18 = .ok (.ireturn, 1) := by decide +kernel
set_option maxRecDepth 20000 in
theorem ggX10_drop_X10_choose : GoodIn wsX10_drop wsX10_choose := goodIn_r _ [8, 9, 10, 2, 1, 11, 12, 13, 14, 15, 16, 17, 18, 19, 20, 21, 22, 23, 24, 25, 26, 27, 28, 29, 30, 31, 32, 33, 34, 35, 36, 37, 38, 39, 40, 41, 42, 43, 44, 45, 46, 47, 48, 49, 50, 51, 52, 53, 54, 55, 56, 57, 58, 59, 60, 61, 62, 63, 64, 65, 66, 67, 7, 68, 69, 70, 71, 72, 73, 74, 75, 76, 77, 78, 79, 80, 81, 82, 83, 84, 85, 86, 87, 88, 89, 90, 91, 92, 93, 94, 95, 96, 97, 98, 99, 100, 101, 102, 103, 104, 105, 106, 107, 108, 109, 110, 111, 112, 113, 114, 115, 116, 117, 133, 134, 135, 136, 137, 138, 139, 140, 141, 142, 143, 144, 145, 146, 147, 148, 149, 150, 151, 152, 153, 154, 155, 156, 157, 158, 159, 160, 161, 162, 163, 164, 165, 166, 167, 168, 169, 170, 171, 172, 173, 174, 175, 176, 177] (by decide +kernel) (by decide +kernel)
set_option maxRecDepth 20000 in
theorem gX10_drop_X10_choose : GoodIn wsX10_drop (wsV RX10 174 RX10 yX10_choose wsX10_choose) := goodIn_app (goodIn_of _ (by decide +kernel)) ggX10_drop_X10_choose
set_option maxRecDepth 20000 in
theorem ggX10_drop_X0_fewestToDrop : GoodIn wsX10_drop wsX0_fewestToDrop := goodIn_r _ [121, 122, 123, 124, 61, 125, 63, 66, 126, 127, 128, 129, 130, 131, 132, 171, 172, 173] (by decide +kernel) (by decide +kernel)
set_option maxRecDepth 20000 in
theorem gX10_drop_X0_fewestToDrop : GoodIn wsX10_drop (wsV RX10 181 RX0 yX0_fewestToDrop wsX0_fewestToDrop) := goodIn_app (goodIn_of _ (by decide +kernel)) ggX10_drop_X0_fewestToDrop
theorem dX10_drop_0 : decode cX10_drop 0 = .ok (.aload_n 0, 1) := by decide +kernel
theorem dX10_drop_1 : decode cX10_drop 1 = .ok (.invokevirtual 174, 3) := by decide +kernel
theorem dX10_drop_4 : decode cX10_drop 4 = .ok (.aload_n 0, 1) := by decide +kernel
theorem dX10_drop_5 : decode cX10_drop 5 = .ok (.getfield 73, 3) := by decide +kernel
theorem dX10_drop_8 : decode cX10_drop 8 = .ok (.aload_n 0, 1) := by decide +kernel
theorem dX10_drop_9 : decode cX10_drop 9 = .ok (.getfield 12, 3) := by decide +kernel
theorem dX10_drop_12 : decode cX10_drop 12 = .ok (.getfield 126, 3) := by decide +kernel
theorem dX10_drop_15 : decode cX10_drop 15 = .ok (.invokevirtual 181, 3) := by decide +kernel
theorem dX10_drop_18 : decode cX10_drop 18 = .ok (.ireturn, 1) := by decide +kernel
set_option maxRecDepth 20000 in
theorem ggX10_between_X10_isEnd : GoodIn wsX10_between wsX10_isEnd := goodIn_r _ [6, 7, 8, 174, 175, 176, 177, 178, 179, 180, 181, 182, 183, 184, 185, 186, 187, 188, 189, 190, 191, 192, 193, 194, 195, 196, 197, 198, 199] (by decide +kernel) (by decide +kernel)
set_option maxRecDepth 20000 in
theorem gX10_between_X10_isEnd : GoodIn wsX10_between (wsV RX10 158 RX10 yX10_isEnd wsX10_isEnd) := goodIn_app (goodIn_of _ (by decide +kernel)) ggX10_between_X10_isEnd
set_option maxRecDepth 20000 in
theorem ggX10_between_X10_refuse : GoodIn wsX10_between wsX10_refuse := goodIn_r _ [12, 13, 174, 175, 176, 177, 178, 179, 180, 181, 182, 183, 184, 185, 186, 187, 188, 189, 190] (by decide +kernel) (by decide +kernel)
set_option maxRecDepth 20000 in
theorem gX10_between_X10_refuse : GoodIn wsX10_between (wsV RX10 95 RX10 yX10_refuse wsX10_refuse) := goodIn_app (goodIn_of _ (by decide +kernel)) ggX10_between_X10_refuse
set_option maxRecDepth 20000 in
theorem ggX10_between_X10_hasFit : GoodIn wsX10_between wsX10_hasFit := goodIn_r _ [17, 1, 18, 19, 20, 21, 5, 22, 23, 24, 7, 25, 26, 8, 27, 28, 29, 30, 31, 32, 33, 34, 35, 36, 37, 38, 39, 40, 41, 42, 43, 44, 45, 46, 47, 48, 49, 50, 51, 52, 53, 54, 55, 56, 57, 58, 59, 60, 61, 62, 63, 64, 65, 66, 67, 68, 69, 70, 71, 72, 73, 74, 75, 76, 77, 78, 79, 80, 81, 82, 83, 84, 85, 86, 87, 88, 89, 90, 91, 92, 93, 94, 95, 96, 97, 98, 99, 100, 101, 102, 103, 104, 105, 106, 107, 108, 109, 110, 111, 112, 113, 114, 115, 116, 117, 118, 119, 120, 121, 122, 123, 124, 125, 126, 127, 128, 129, 130, 131, 132, 133, 134, 135, 136, 137, 138, 139, 140, 141, 142, 143, 144, 145, 146, 147, 148, 149, 150, 151, 152, 153, 154, 174, 175, 176, 177, 178, 179, 180, 181, 182, 183, 184, 185, 186, 187, 188, 189, 190, 200, 201, 202, 203, 204, 205, 206, 191, 192, 193, 194, 195, 196, 197, 198, 199, 207, 208, 209, 210, 211, 212, 213, 214, 215, 216, 217, 218, 219, 220, 221, 222, 223, 224, 225] (by decide +kernel) (by decide +kernel)
set_option maxRecDepth 20000 in
theorem gX10_between_X10_hasFit : GoodIn wsX10_between (wsV RX10 161 RX10 yX10_hasFit wsX10_hasFit) := goodIn_app (goodIn_of _ (by decide +kernel)) ggX10_between_X10_hasFit
set_option maxRecDepth 20000 in
theorem ggX10_between_X3_relation : GoodIn wsX10_between wsX3_relation := goodIn_r _ [158, 159, 160, 161, 118, 162, 121, 163, 164, 165, 166, 122, 167, 168, 169, 170, 171, 172, 173, 200, 201, 202, 203, 204, 205, 206] (by decide +kernel) (by decide +kernel)
set_option maxRecDepth 20000 in
theorem gX10_between_X3_relation : GoodIn wsX10_between (wsV RX10 184 RX3 yX3_relation wsX3_relation) := goodIn_app (goodIn_of _ (by decide +kernel)) ggX10_between_X3_relation
theorem dX10_between_0 : decode cX10_between 0 = .ok (.aload_n 0, 1) := by decide +kernel
theorem dX10_between_1 : decode cX10_between 1 = .ok (.iload_n 1, 1) := by decide +kernel
theorem dX10_between_2 : decode cX10_between 2 = .ok (.invokevirtual 158, 3) := by decide +kernel
theorem dX10_between_5 : decode cX10_between 5 = .ok (.ifCond .eq 16, 3) := by decide +kernel
theorem dX10_between_8 : decode cX10_between 8 = .ok (.aload_n 0, 1) := by decide +kernel
theorem dX10_between_9 : decode cX10_between 9 = .ok (.iload_n 2, 1) := by decide +kernel
theorem dX10_between_10 : decode cX10_between 10 = .ok (.invokevirtual 158, 3) := by decide +kernel
theorem dX10_between_13 : decode cX10_between 13 = .ok (.ifCond .eq 8, 3) := by decide +kernel
theorem dX10_between_16 : decode cX10_between 16 = .ok (.iload_n 1, 1) := by decide +kernel
theorem dX10_between_17 : decode cX10_between 17 = .ok (.iload_n 2, 1) := by decide +kernel
theorem dX10_between_18 : decode cX10_between 18 = .ok (.if_icmp .ne 12, 3) := by decide +kernel
theorem dX10_between_21 : decode cX10_between 21 = .ok (.aload_n 0, 1) := by decide +kernel
theorem dX10_between_22 : decode cX10_between 22 = .ok (.bipush (-2), 2) := by decide +kernel
theorem dX10_between_24 : decode cX10_between 24 = .ok (.bipush (-2), 2) := by decide +kernel
theorem dX10_between_26 : decode cX10_between 26 = .ok (.invokevirtual 95, 3) := by decide +kernel
theorem dX10_between_29 : decode cX10_between 29 = .ok (.ireturn, 1) := by decide +kernel
theorem dX10_between_30 : decode cX10_between 30 = .ok (.aload_n 0, 1) := by decide +kernel
theorem dX10_between_31 : decode cX10_between 31 = .ok (.invokevirtual 161, 3) := by decide +kernel
theorem dX10_between_34 : decode cX10_between 34 = .ok (.ifCond .eq 15, 3) := by decide +kernel
theorem dX10_between_37 : decode cX10_between 37 = .ok (.aload_n 0, 1) := by decide +kernel
theorem dX10_between_38 : decode cX10_between 38 = .ok (.getfield 66, 3) := by decide +kernel
theorem dX10_between_41 : decode cX10_between 41 = .ok (.iload_n 1, 1) := by decide +kernel
theorem dX10_between_42 : decode cX10_between 42 = .ok (.iload_n 2, 1) := by decide +kernel
theorem dX10_between_43 : decode cX10_between 43 = .ok (.invokevirtual 184, 3) := by decide +kernel
theorem dX10_between_46 : decode cX10_between 46 = .ok (.goto 11, 3) := by decide +kernel
theorem dX10_between_49 : decode cX10_between 49 = .ok (.aload_n 0, 1) := by decide +kernel
theorem dX10_between_50 : decode cX10_between 50 = .ok (.bipush (-3), 2) := by decide +kernel
theorem dX10_between_52 : decode cX10_between 52 = .ok (.bipush (-3), 2) := by decide +kernel
theorem dX10_between_54 : decode cX10_between 54 = .ok (.invokevirtual 95, 3) := by decide +kernel
theorem dX10_between_57 : decode cX10_between 57 = .ok (.ireturn, 1) := by decide +kernel
set_option maxRecDepth 20000 in
theorem ggX10_sure_X10_hasFit : GoodIn wsX10_sure wsX10_hasFit := goodIn_r _ [8, 1, 9, 10, 11, 12, 7, 13, 14, 15, 2, 16, 17, 3, 18, 19, 20, 21, 22, 23, 24, 25, 26, 27, 28, 29, 30, 31, 32, 33, 34, 35, 36, 37, 38, 39, 40, 41, 42, 43, 44, 45, 46, 47, 48, 49, 50, 51, 52, 53, 54, 55, 56, 57, 58, 59, 60, 61, 62, 63, 64, 65, 66, 67, 68, 69, 70, 71, 72, 73, 74, 75, 76, 77, 78, 79, 80, 81, 82, 83, 84, 85, 86, 87, 88, 89, 90, 91, 92, 93, 94, 95, 96, 97, 98, 99, 100, 101, 102, 103, 104, 105, 106, 107, 108, 109, 110, 111, 112, 113, 114, 115, 116, 117, 118, 119, 120, 121, 122, 123, 124, 125, 126, 127, 128, 129, 130, 131, 132, 133, 134, 135, 136, 137, 138, 139, 140, 141, 142, 143, 144, 145, 185, 186, 187, 188, 189, 190, 191, 192, 193, 194, 195, 196, 197, 198, 199, 200, 201, 211, 212, 213, 214, 215, 216, 217, 202, 203, 204, 205, 206, 207, 208, 209, 210, 218, 219, 220, 221, 222, 223, 224, 225, 226, 227, 228, 229, 230, 231, 232, 233, 234, 235, 236] (by decide +kernel) (by decide +kernel)
set_option maxRecDepth 20000 in
theorem gX10_sure_X10_hasFit : GoodIn wsX10_sure (wsV RX10 161 RX10 yX10_hasFit wsX10_hasFit) := goodIn_app (goodIn_of _ (by decide +kernel)) ggX10_sure_X10_hasFit
set_option maxRecDepth 20000 in
theorem ggX10_sure_X3_surePairs : GoodIn wsX10_sure wsX3_surePairs := goodIn_r _ [149, 150, 151, 152, 109, 153, 154, 155, 156, 157, 158, 159, 160, 161, 112, 162, 163, 164, 165, 113, 166, 167, 168, 169, 170, 171, 172, 173, 174, 175, 176, 177, 178, 179, 211, 212, 213, 214, 215, 216, 217] (by decide +kernel) (by decide +kernel)
set_option maxRecDepth 20000 in
theorem gX10_sure_X3_surePairs : GoodIn wsX10_sure (wsV RX10 187 RX3 yX3_surePairs wsX3_surePairs) := goodIn_app (goodIn_of _ (by decide +kernel)) ggX10_sure_X3_surePairs
set_option maxRecDepth 20000 in
theorem ggX10_sure_X10_refuse : GoodIn wsX10_sure wsX10_refuse := goodIn_r _ [183, 184, 185, 186, 187, 188, 189, 190, 191, 192, 193, 194, 195, 196, 197, 198, 199, 200, 201] (by decide +kernel) (by decide +kernel)
set_option maxRecDepth 20000 in
theorem gX10_sure_X10_refuse : GoodIn wsX10_sure (wsV RX10 95 RX10 yX10_refuse wsX10_refuse) := goodIn_app (goodIn_of _ (by decide +kernel)) ggX10_sure_X10_refuse
theorem dX10_sure_0 : decode cX10_sure 0 = .ok (.aload_n 0, 1) := by decide +kernel
theorem dX10_sure_1 : decode cX10_sure 1 = .ok (.invokevirtual 161, 3) := by decide +kernel
theorem dX10_sure_4 : decode cX10_sure 4 = .ok (.ifCond .eq 22, 3) := by decide +kernel
theorem dX10_sure_7 : decode cX10_sure 7 = .ok (.aload_n 0, 1) := by decide +kernel
theorem dX10_sure_8 : decode cX10_sure 8 = .ok (.getfield 66, 3) := by decide +kernel
theorem dX10_sure_11 : decode cX10_sure 11 = .ok (.iconst 2, 1) := by decide +kernel
theorem dX10_sure_12 : decode cX10_sure 12 = .ok (.aload_n 0, 1) := by decide +kernel
theorem dX10_sure_13 : decode cX10_sure 13 = .ok (.getfield 12, 3) := by decide +kernel
theorem dX10_sure_16 : decode cX10_sure 16 = .ok (.getfield 91, 3) := by decide +kernel
theorem dX10_sure_19 : decode cX10_sure 19 = .ok (.imul, 1) := by decide +kernel
theorem dX10_sure_20 : decode cX10_sure 20 = .ok (.invokevirtual 187, 3) := by decide +kernel
theorem dX10_sure_23 : decode cX10_sure 23 = .ok (.goto 11, 3) := by decide +kernel
theorem dX10_sure_26 : decode cX10_sure 26 = .ok (.aload_n 0, 1) := by decide +kernel
theorem dX10_sure_27 : decode cX10_sure 27 = .ok (.bipush (-3), 2) := by decide +kernel
theorem dX10_sure_29 : decode cX10_sure 29 = .ok (.bipush (-3), 2) := by decide +kernel
theorem dX10_sure_31 : decode cX10_sure 31 = .ok (.invokevirtual 95, 3) := by decide +kernel
theorem dX10_sure_34 : decode cX10_sure 34 = .ok (.ireturn, 1) := by decide +kernel
set_option maxRecDepth 20000 in
theorem ggX10_together_X10_areTwoThings : GoodIn wsX10_together wsX10_areTwoThings := goodIn_r _ [6, 7, 8, 9, 5, 10, 11, 12, 177, 178, 179, 180, 181, 182, 183, 184, 185, 186, 187, 188, 189, 190, 191, 192, 193, 194, 195, 196, 197, 198, 199, 200, 201, 202] (by decide +kernel) (by decide +kernel)
set_option maxRecDepth 20000 in
theorem gX10_together_X10_areTwoThings : GoodIn wsX10_together (wsV RX10 122 RX10 yX10_areTwoThings wsX10_areTwoThings) := goodIn_app (goodIn_of _ (by decide +kernel)) ggX10_together_X10_areTwoThings
set_option maxRecDepth 20000 in
theorem ggX10_together_X10_refuse : GoodIn wsX10_together wsX10_refuse := goodIn_r _ [16, 17, 177, 178, 179, 180, 181, 182, 183, 184, 185, 186, 187, 188, 189, 190, 191, 192, 193] (by decide +kernel) (by decide +kernel)
set_option maxRecDepth 20000 in
theorem gX10_together_X10_refuse : GoodIn wsX10_together (wsV RX10 95 RX10 yX10_refuse wsX10_refuse) := goodIn_app (goodIn_of _ (by decide +kernel)) ggX10_together_X10_refuse
set_option maxRecDepth 20000 in
theorem ggX10_together_X10_find : GoodIn wsX10_together wsX10_find := goodIn_r _ [21, 22, 23, 11, 24, 25, 12, 1, 26, 27, 28, 29, 30, 31, 32, 33, 34, 35, 36, 37, 38, 39, 40, 41, 42, 43, 44, 45, 46, 47, 48, 49, 50, 51, 52, 53, 54, 55, 56, 57, 58, 59, 60, 61, 62, 63, 64, 65, 66, 67, 68, 69, 70, 71, 72, 73, 74, 75, 76, 77, 78, 79, 80, 5, 81, 82, 83, 84, 85, 86, 87, 88, 89, 90, 91, 92, 93, 94, 95, 96, 97, 98, 99, 100, 101, 102, 103, 104, 105, 106, 107, 108, 109, 110, 111, 112, 113, 114, 115, 116, 117, 118, 119, 120, 121, 122, 123, 124, 125, 126, 127, 128, 129, 130, 131, 132, 133, 134, 135, 136, 137, 138, 139, 140, 141, 142, 143, 144, 145, 146, 147, 148, 149, 150, 151, 152, 153, 177, 178, 179, 180, 181, 182, 183, 184, 185, 186, 187, 188, 189, 190, 191, 192, 193, 194, 195, 196, 197, 198, 199, 200, 201, 202, 203, 204, 205, 206, 207, 208, 209, 210, 211, 212, 213, 214, 215, 216, 217, 218, 219, 220, 221, 222, 223, 224, 225, 226, 227, 228] (by decide +kernel) (by decide +kernel)
set_option maxRecDepth 20000 in
theorem gX10_together_X10_find : GoodIn wsX10_together (wsV RX10 151 RX10 yX10_find wsX10_find) := goodIn_app (goodIn_of _ (by decide +kernel)) ggX10_together_X10_find
set_option maxRecDepth 20000 in
theorem ggX10_together_X3_overlaps : GoodIn wsX10_together wsX3_overlaps := goodIn_r _ [157, 119, 158, 159, 160, 117, 161, 162, 163, 164, 165, 120, 166, 167, 168, 169, 121, 170, 171, 172, 173, 174, 175, 176, 222, 223, 224, 225, 226, 227, 228] (by decide +kernel) (by decide +kernel)
set_option maxRecDepth 20000 in
theorem gX10_together_X3_overlaps : GoodIn wsX10_together (wsV RX10 190 RX3 yX3_overlaps wsX3_overlaps) := goodIn_app (goodIn_of _ (by decide +kernel)) ggX10_together_X3_overlaps
theorem dX10_together_0 : decode cX10_together 0 = .ok (.aload_n 0, 1) := by decide +kernel
theorem dX10_together_1 : decode cX10_together 1 = .ok (.iload_n 1, 1) := by decide +kernel
theorem dX10_together_2 : decode cX10_together 2 = .ok (.iload_n 2, 1) := by decide +kernel
theorem dX10_together_3 : decode cX10_together 3 = .ok (.invokevirtual 122, 3) := by decide +kernel
theorem dX10_together_6 : decode cX10_together 6 = .ok (.ifCond .ne 13, 3) := by decide +kernel
theorem dX10_together_9 : decode cX10_together 9 = .ok (.aload_n 0, 1) := by decide +kernel
theorem dX10_together_10 : decode cX10_together 10 = .ok (.bipush (-2), 2) := by decide +kernel
theorem dX10_together_12 : decode cX10_together 12 = .ok (.bipush (-2), 2) := by decide +kernel
theorem dX10_together_14 : decode cX10_together 14 = .ok (.invokevirtual 95, 3) := by decide +kernel
theorem dX10_together_17 : decode cX10_together 17 = .ok (.i2l, 1) := by decide +kernel
theorem dX10_together_18 : decode cX10_together 18 = .ok (.lreturn, 1) := by decide +kernel
theorem dX10_together_19 : decode cX10_together 19 = .ok (.aload_n 0, 1) := by decide +kernel
theorem dX10_together_20 : decode cX10_together 20 = .ok (.invokevirtual 151, 3) := by decide +kernel
theorem dX10_together_23 : decode cX10_together 23 = .ok (.aload_n 0, 1) := by decide +kernel
theorem dX10_together_24 : decode cX10_together 24 = .ok (.getfield 66, 3) := by decide +kernel
theorem dX10_together_27 : decode cX10_together 27 = .ok (.iload_n 1, 1) := by decide +kernel
theorem dX10_together_28 : decode cX10_together 28 = .ok (.iload_n 2, 1) := by decide +kernel
theorem dX10_together_29 : decode cX10_together 29 = .ok (.invokevirtual 190, 3) := by decide +kernel
theorem dX10_together_32 : decode cX10_together 32 = .ok (.lreturn, 1) := by decide +kernel
set_option maxRecDepth 20000 in
theorem ggX10_ask_X10_isEither : GoodIn wsX10_ask wsX10_isEither := goodIn_r _ [7] (by decide +kernel) (by decide +kernel)
set_option maxRecDepth 20000 in
theorem gX10_ask_X10_isEither : GoodIn wsX10_ask (va_wsS RX10 116 yX10_isEither wsX10_isEither) := goodIn_app (goodIn_of _ (by decide +kernel)) ggX10_ask_X10_isEither
set_option maxRecDepth 20000 in
theorem ggX10_ask_X10_refuse : GoodIn wsX10_ask wsX10_refuse := goodIn_r _ [11, 12, 196, 197, 198, 199, 200, 201, 202, 203, 204, 205, 206, 207, 208, 209, 210, 211, 212] (by decide +kernel) (by decide +kernel)
set_option maxRecDepth 20000 in
theorem gX10_ask_X10_refuse : GoodIn wsX10_ask (wsV RX10 95 RX10 yX10_refuse wsX10_refuse) := goodIn_app (goodIn_of _ (by decide +kernel)) ggX10_ask_X10_refuse
set_option maxRecDepth 20000 in
theorem ggX10_ask_X10_hasFit : GoodIn wsX10_ask wsX10_hasFit := goodIn_r _ [16, 1, 17, 18, 19, 20, 6, 21, 22, 23, 2, 24, 25, 3, 26, 27, 28, 29, 30, 31, 32, 33, 34, 35, 36, 37, 38, 39, 40, 41, 42, 43, 44, 45, 46, 47, 48, 49, 50, 51, 52, 53, 54, 55, 56, 57, 58, 59, 60, 61, 62, 63, 64, 65, 66, 67, 68, 69, 70, 71, 72, 73, 74, 75, 76, 77, 78, 79, 80, 81, 82, 83, 84, 85, 86, 87, 88, 89, 90, 91, 92, 93, 94, 95, 96, 97, 98, 99, 100, 101, 102, 103, 104, 105, 106, 107, 108, 109, 110, 111, 112, 113, 114, 115, 116, 117, 118, 119, 120, 121, 122, 123, 124, 125, 126, 127, 128, 129, 130, 131, 132, 133, 134, 135, 136, 137, 138, 139, 140, 141, 142, 143, 144, 145, 146, 147, 148, 149, 150, 151, 152, 153, 196, 197, 198, 199, 200, 201, 202, 203, 204, 205, 206, 207, 208, 209, 210, 211, 212, 222, 223, 224, 225, 226, 227, 228, 213, 214, 215, 216, 217, 218, 219, 220, 221, 229, 230, 231, 232, 233, 234, 235, 236, 237, 238, 239, 240, 241, 242, 243, 244, 245, 246, 247] (by decide +kernel) (by decide +kernel)
set_option maxRecDepth 20000 in
theorem gX10_ask_X10_hasFit : GoodIn wsX10_ask (wsV RX10 161 RX10 yX10_hasFit wsX10_hasFit) := goodIn_app (goodIn_of _ (by decide +kernel)) ggX10_ask_X10_hasFit
set_option maxRecDepth 20000 in
theorem ggX10_ask_X3_question : GoodIn wsX10_ask wsX3_question := goodIn_r _ [157, 158, 159, 160, 161, 117, 162, 163, 164, 165, 166, 167, 168, 169, 170, 121, 171, 172, 173, 174, 175, 176, 177, 178, 179, 180, 120, 181, 182, 183, 184, 185, 186, 187, 188, 189, 190, 191, 192, 193, 194, 195, 222, 223, 224, 225, 226, 227, 228] (by decide +kernel) (by decide +kernel)
set_option maxRecDepth 20000 in
theorem gX10_ask_X3_question : GoodIn wsX10_ask (wsV RX10 194 RX3 yX3_question wsX3_question) := goodIn_app (goodIn_of _ (by decide +kernel)) ggX10_ask_X3_question
theorem dX10_ask_0 : decode cX10_ask 0 = .ok (.iload_n 1, 1) := by decide +kernel
theorem dX10_ask_1 : decode cX10_ask 1 = .ok (.invokestatic 116, 3) := by decide +kernel
theorem dX10_ask_4 : decode cX10_ask 4 = .ok (.ifCond .ne 13, 3) := by decide +kernel
theorem dX10_ask_7 : decode cX10_ask 7 = .ok (.aload_n 0, 1) := by decide +kernel
theorem dX10_ask_8 : decode cX10_ask 8 = .ok (.bipush (-2), 2) := by decide +kernel
theorem dX10_ask_10 : decode cX10_ask 10 = .ok (.bipush (-2), 2) := by decide +kernel
theorem dX10_ask_12 : decode cX10_ask 12 = .ok (.invokevirtual 95, 3) := by decide +kernel
theorem dX10_ask_15 : decode cX10_ask 15 = .ok (.i2l, 1) := by decide +kernel
theorem dX10_ask_16 : decode cX10_ask 16 = .ok (.lreturn, 1) := by decide +kernel
theorem dX10_ask_17 : decode cX10_ask 17 = .ok (.aload_n 0, 1) := by decide +kernel
theorem dX10_ask_18 : decode cX10_ask 18 = .ok (.invokevirtual 161, 3) := by decide +kernel
theorem dX10_ask_21 : decode cX10_ask 21 = .ok (.ifCond .ne 13, 3) := by decide +kernel
theorem dX10_ask_24 : decode cX10_ask 24 = .ok (.aload_n 0, 1) := by decide +kernel
theorem dX10_ask_25 : decode cX10_ask 25 = .ok (.bipush (-3), 2) := by decide +kernel
theorem dX10_ask_27 : decode cX10_ask 27 = .ok (.bipush (-3), 2) := by decide +kernel
theorem dX10_ask_29 : decode cX10_ask 29 = .ok (.invokevirtual 95, 3) := by decide +kernel
theorem dX10_ask_32 : decode cX10_ask 32 = .ok (.i2l, 1) := by decide +kernel
theorem dX10_ask_33 : decode cX10_ask 33 = .ok (.lreturn, 1) := by decide +kernel
theorem dX10_ask_34 : decode cX10_ask 34 = .ok (.aload_n 0, 1) := by decide +kernel
theorem dX10_ask_35 : decode cX10_ask 35 = .ok (.getfield 66, 3) := by decide +kernel
theorem dX10_ask_38 : decode cX10_ask 38 = .ok (.iload_n 1, 1) := by decide +kernel
theorem dX10_ask_39 : decode cX10_ask 39 = .ok (.iconst 2, 1) := by decide +kernel
theorem dX10_ask_40 : decode cX10_ask 40 = .ok (.aload_n 0, 1) := by decide +kernel
theorem dX10_ask_41 : decode cX10_ask 41 = .ok (.getfield 12, 3) := by decide +kernel
theorem dX10_ask_44 : decode cX10_ask 44 = .ok (.getfield 91, 3) := by decide +kernel
theorem dX10_ask_47 : decode cX10_ask 47 = .ok (.imul, 1) := by decide +kernel
theorem dX10_ask_48 : decode cX10_ask 48 = .ok (.invokevirtual 194, 3) := by decide +kernel
theorem dX10_ask_51 : decode cX10_ask 51 = .ok (.lreturn, 1) := by decide +kernel
set_option maxRecDepth 20000 in
theorem ggX10_one_X10_refuse : GoodIn wsX10_one wsX10_refuse := goodIn_r _ [10, 11, 151, 152, 153, 154, 155, 156, 157, 158, 159, 160, 161, 162, 163, 164, 165, 166, 167] (by decide +kernel) (by decide +kernel)
set_option maxRecDepth 20000 in
theorem gX10_one_X10_refuse : GoodIn wsX10_one (wsV RX10 95 RX10 yX10_refuse wsX10_refuse) := goodIn_app (goodIn_of _ (by decide +kernel)) ggX10_one_X10_refuse
set_option maxRecDepth 20000 in
theorem ggX10_one_X10_pair : GoodIn wsX10_one wsX10_pair := goodIn_r _ [15, 16, 17, 18, 1, 19, 20, 21, 22, 23, 24, 25, 26, 27, 28, 29, 30, 31, 32, 33, 34, 35, 36, 37, 38, 39, 40, 41, 42, 43, 44, 45, 46, 47, 48, 49, 50, 51, 52, 53, 54, 55, 56, 57, 58, 59, 60, 61, 62, 63, 64, 65, 66, 67, 68, 69, 70, 71, 72, 73, 74, 75, 76, 77, 78, 79, 80, 81, 82, 83, 84, 85, 86, 87, 88, 89, 90, 91, 92, 93, 94, 95, 96, 97, 98, 99, 100, 101, 102, 103, 104, 105, 106, 107, 108, 9, 109, 110, 111, 112, 113, 114, 115, 116, 117, 118, 119, 120, 121, 122, 123, 124, 125, 126, 127, 128, 129, 130, 131, 132, 133, 134, 135, 136, 137, 138, 139, 140, 141, 142, 143, 144, 145, 146, 147, 148, 149, 150, 151, 152, 153, 154, 155, 156, 157, 158, 159, 160, 161, 162, 163, 164, 165, 166, 167, 176, 177, 178, 179, 180, 181, 182, 183, 184, 185, 186, 187, 188, 189, 190, 191, 192, 193, 194, 195, 196, 168, 169, 170, 171, 172, 173, 174, 175, 197, 198, 199, 200, 201, 202, 203] (by decide +kernel) (by decide +kernel)
set_option maxRecDepth 20000 in
theorem gX10_one_X10_pair : GoodIn wsX10_one (wsV RX10 197 RX10 yX10_pair wsX10_pair) := goodIn_app (goodIn_of _ (by decide +kernel)) ggX10_one_X10_pair
theorem dX10_one_0 : decode cX10_one 0 = .ok (.iload_n 1, 1) := by decide +kernel
theorem dX10_one_1 : decode cX10_one 1 = .ok (.iconst (-1), 1) := by decide +kernel
theorem dX10_one_2 : decode cX10_one 2 = .ok (.if_icmp .ge 12, 3) := by decide +kernel
theorem dX10_one_5 : decode cX10_one 5 = .ok (.aload_n 0, 1) := by decide +kernel
theorem dX10_one_6 : decode cX10_one 6 = .ok (.bipush (-2), 2) := by decide +kernel
theorem dX10_one_8 : decode cX10_one 8 = .ok (.bipush (-10), 2) := by decide +kernel
theorem dX10_one_10 : decode cX10_one 10 = .ok (.invokevirtual 95, 3) := by decide +kernel
theorem dX10_one_13 : decode cX10_one 13 = .ok (.ireturn, 1) := by decide +kernel
theorem dX10_one_14 : decode cX10_one 14 = .ok (.aload_n 0, 1) := by decide +kernel
theorem dX10_one_15 : decode cX10_one 15 = .ok (.invokevirtual 197, 3) := by decide +kernel
theorem dX10_one_18 : decode cX10_one 18 = .ok (.aload_n 0, 1) := by decide +kernel
theorem dX10_one_19 : decode cX10_one 19 = .ok (.getfield 87, 3) := by decide +kernel
theorem dX10_one_22 : decode cX10_one 22 = .ok (.getfield 200, 3) := by decide +kernel
theorem dX10_one_25 : decode cX10_one 25 = .ok (.ifCond .ne 12, 3) := by decide +kernel
theorem dX10_one_28 : decode cX10_one 28 = .ok (.aload_n 0, 1) := by decide +kernel
theorem dX10_one_29 : decode cX10_one 29 = .ok (.bipush (-2), 2) := by decide +kernel
theorem dX10_one_31 : decode cX10_one 31 = .ok (.bipush (-10), 2) := by decide +kernel
theorem dX10_one_33 : decode cX10_one 33 = .ok (.invokevirtual 95, 3) := by decide +kernel
theorem dX10_one_36 : decode cX10_one 36 = .ok (.ireturn, 1) := by decide +kernel
theorem dX10_one_37 : decode cX10_one 37 = .ok (.iload_n 1, 1) := by decide +kernel
theorem dX10_one_38 : decode cX10_one 38 = .ok (.iconst (-1), 1) := by decide +kernel
theorem dX10_one_39 : decode cX10_one 39 = .ok (.if_icmp .ne 11, 3) := by decide +kernel
theorem dX10_one_42 : decode cX10_one 42 = .ok (.aload_n 0, 1) := by decide +kernel
theorem dX10_one_43 : decode cX10_one 43 = .ok (.getfield 87, 3) := by decide +kernel
theorem dX10_one_46 : decode cX10_one 46 = .ok (.getfield 204, 3) := by decide +kernel
theorem dX10_one_49 : decode cX10_one 49 = .ok (.ireturn, 1) := by decide +kernel
theorem dX10_one_50 : decode cX10_one 50 = .ok (.iload_n 1, 1) := by decide +kernel
theorem dX10_one_51 : decode cX10_one 51 = .ok (.aload_n 0, 1) := by decide +kernel
theorem dX10_one_52 : decode cX10_one 52 = .ok (.getfield 87, 3) := by decide +kernel
theorem dX10_one_55 : decode cX10_one 55 = .ok (.getfield 207, 3) := by decide +kernel
theorem dX10_one_58 : decode cX10_one 58 = .ok (.if_icmp .ge 25, 3) := by decide +kernel
theorem dX10_one_61 : decode cX10_one 61 = .ok (.aload_n 0, 1) := by decide +kernel
theorem dX10_one_62 : decode cX10_one 62 = .ok (.getfield 87, 3) := by decide +kernel
theorem dX10_one_65 : decode cX10_one 65 = .ok (.getfield 204, 3) := by decide +kernel
theorem dX10_one_68 : decode cX10_one 68 = .ok (.ifCond .le 15, 3) := by decide +kernel
theorem dX10_one_71 : decode cX10_one 71 = .ok (.aload_n 0, 1) := by decide +kernel
theorem dX10_one_72 : decode cX10_one 72 = .ok (.getfield 87, 3) := by decide +kernel
theorem dX10_one_75 : decode cX10_one 75 = .ok (.getfield 210, 3) := by decide +kernel
theorem dX10_one_78 : decode cX10_one 78 = .ok (.iload_n 1, 1) := by decide +kernel
theorem dX10_one_79 : decode cX10_one 79 = .ok (.iaload, 1) := by decide +kernel
theorem dX10_one_80 : decode cX10_one 80 = .ok (.goto 5, 3) := by decide +kernel
theorem dX10_one_83 : decode cX10_one 83 = .ok (.bipush (-5), 2) := by decide +kernel
theorem dX10_one_85 : decode cX10_one 85 = .ok (.ireturn, 1) := by decide +kernel
set_option maxRecDepth 20000 in
theorem ggX10_word_X10_isPerson : GoodIn wsX10_word wsX10_isPerson := goodIn_r _ [6] (by decide +kernel) (by decide +kernel)
set_option maxRecDepth 20000 in
theorem gX10_word_X10_isPerson : GoodIn wsX10_word (va_wsS RX10 110 yX10_isPerson wsX10_isPerson) := goodIn_app (goodIn_of _ (by decide +kernel)) ggX10_word_X10_isPerson
set_option maxRecDepth 20000 in
theorem ggX10_word_X10_refuse : GoodIn wsX10_word wsX10_refuse := goodIn_r _ [10, 11, 136, 137, 138, 139, 140, 141, 142, 143, 144, 145, 146, 147, 148, 149, 150, 151, 152] (by decide +kernel) (by decide +kernel)
set_option maxRecDepth 20000 in
theorem gX10_word_X10_refuse : GoodIn wsX10_word (wsV RX10 95 RX10 yX10_refuse wsX10_refuse) := goodIn_app (goodIn_of _ (by decide +kernel)) ggX10_word_X10_refuse
set_option maxRecDepth 20000 in
theorem ggX10_word_X10_choose : GoodIn wsX10_word wsX10_choose := goodIn_r _ [15, 16, 17, 2, 1, 18, 19, 20, 21, 22, 23, 24, 25, 26, 27, 28, 29, 30, 31, 32, 33, 34, 35, 36, 37, 38, 39, 40, 41, 42, 43, 44, 45, 46, 47, 48, 49, 50, 51, 52, 53, 54, 55, 56, 57, 58, 59, 60, 61, 62, 63, 64, 65, 66, 67, 68, 69, 70, 71, 72, 73, 74, 5, 75, 76, 77, 78, 79, 80, 81, 82, 83, 84, 85, 86, 87, 88, 89, 90, 91, 92, 93, 94, 95, 96, 97, 98, 99, 100, 101, 102, 103, 104, 105, 106, 107, 108, 109, 110, 111, 112, 113, 114, 115, 116, 117, 118, 119, 120, 121, 122, 123, 124, 136, 137, 138, 139, 140, 141, 142, 143, 144, 145, 146, 147, 148, 149, 150, 151, 152, 153, 154, 155, 156, 157, 158, 159, 160, 161, 162, 163, 164, 165, 166, 167, 168, 169, 170, 171, 172, 173, 174, 175, 176, 177, 178, 179, 180] (by decide +kernel) (by decide +kernel)
set_option maxRecDepth 20000 in
theorem gX10_word_X10_choose : GoodIn wsX10_word (wsV RX10 174 RX10 yX10_choose wsX10_choose) := goodIn_app (goodIn_of _ (by decide +kernel)) ggX10_word_X10_choose
set_option maxRecDepth 20000 in
theorem ggX10_word_X4_sayingsNotBy : GoodIn wsX10_word wsX4_sayingsNotBy := goodIn_r _ [129, 130, 131, 153, 154, 155, 156, 157, 158, 159, 160, 161] (by decide +kernel) (by decide +kernel)
set_option maxRecDepth 20000 in
theorem gX10_word_X4_sayingsNotBy : GoodIn wsX10_word (wsV RX10 213 RX4 yX4_sayingsNotBy wsX4_sayingsNotBy) := goodIn_app (goodIn_of _ (by decide +kernel)) ggX10_word_X4_sayingsNotBy
set_option maxRecDepth 20000 in
theorem ggX10_word_X0_can : GoodIn wsX10_word wsX0_can := goodIn_r _ [135, 70, 73, 174, 175, 176] (by decide +kernel) (by decide +kernel)
set_option maxRecDepth 20000 in
theorem gX10_word_X0_can : GoodIn wsX10_word (wsV RX10 216 RX0 yX0_can wsX0_can) := goodIn_app (goodIn_of _ (by decide +kernel)) ggX10_word_X0_can
theorem dX10_word_0 : decode cX10_word 0 = .ok (.iload_n 1, 1) := by decide +kernel
theorem dX10_word_1 : decode cX10_word 1 = .ok (.invokestatic 110, 3) := by decide +kernel
theorem dX10_word_4 : decode cX10_word 4 = .ok (.ifCond .ne 12, 3) := by decide +kernel
theorem dX10_word_7 : decode cX10_word 7 = .ok (.aload_n 0, 1) := by decide +kernel
theorem dX10_word_8 : decode cX10_word 8 = .ok (.bipush (-2), 2) := by decide +kernel
theorem dX10_word_10 : decode cX10_word 10 = .ok (.bipush (-2), 2) := by decide +kernel
theorem dX10_word_12 : decode cX10_word 12 = .ok (.invokevirtual 95, 3) := by decide +kernel
theorem dX10_word_15 : decode cX10_word 15 = .ok (.ireturn, 1) := by decide +kernel
theorem dX10_word_16 : decode cX10_word 16 = .ok (.aload_n 0, 1) := by decide +kernel
theorem dX10_word_17 : decode cX10_word 17 = .ok (.invokevirtual 174, 3) := by decide +kernel
theorem dX10_word_20 : decode cX10_word 20 = .ok (.aload_n 0, 1) := by decide +kernel
theorem dX10_word_21 : decode cX10_word 21 = .ok (.getfield 73, 3) := by decide +kernel
theorem dX10_word_24 : decode cX10_word 24 = .ok (.aload_n 0, 1) := by decide +kernel
theorem dX10_word_25 : decode cX10_word 25 = .ok (.getfield 12, 3) := by decide +kernel
theorem dX10_word_28 : decode cX10_word 28 = .ok (.iload_n 1, 1) := by decide +kernel
theorem dX10_word_29 : decode cX10_word 29 = .ok (.invokevirtual 213, 3) := by decide +kernel
theorem dX10_word_32 : decode cX10_word 32 = .ok (.invokevirtual 216, 3) := by decide +kernel
theorem dX10_word_35 : decode cX10_word 35 = .ok (.ifCond .eq 7, 3) := by decide +kernel
theorem dX10_word_38 : decode cX10_word 38 = .ok (.iconst 1, 1) := by decide +kernel
theorem dX10_word_39 : decode cX10_word 39 = .ok (.goto 4, 3) := by decide +kernel
theorem dX10_word_42 : decode cX10_word 42 = .ok (.iconst 0, 1) := by decide +kernel
theorem dX10_word_43 : decode cX10_word 43 = .ok (.ireturn, 1) := by decide +kernel
set_option maxRecDepth 20000 in
theorem ggX10_against_X10_choose : GoodIn wsX10_against wsX10_choose := goodIn_r _ [7, 8, 9, 2, 1, 10, 11, 12, 13, 14, 15, 16, 17, 18, 19, 20, 21, 22, 23, 24, 25, 26, 27, 28, 29, 30, 31, 32, 33, 34, 35, 36, 37, 38, 39, 40, 41, 42, 43, 44, 45, 46, 47, 48, 49, 50, 51, 52, 53, 54, 55, 56, 57, 58, 59, 60, 61, 62, 63, 64, 65, 66, 6, 67, 68, 69, 70, 71, 72, 73, 74, 75, 76, 77, 78, 79, 80, 81, 82, 83, 84, 85, 86, 87, 88, 89, 90, 91, 92, 93, 94, 95, 96, 97, 98, 99, 100, 101, 102, 103, 104, 105, 106, 107, 108, 109, 110, 111, 112, 113, 114, 115, 116, 128, 129, 130, 131, 132, 133, 134, 135, 136, 137, 138, 139, 140, 141, 142, 143, 144, 145, 146, 147, 148, 149, 150, 151, 152, 153, 154, 155, 156, 157, 158, 159, 160, 161, 162, 163, 164, 165, 166, 167, 168, 169, 170, 171, 172] (by decide +kernel) (by decide +kernel)
set_option maxRecDepth 20000 in
theorem gX10_against_X10_choose : GoodIn wsX10_against (wsV RX10 174 RX10 yX10_choose wsX10_choose) := goodIn_app (goodIn_of _ (by decide +kernel)) ggX10_against_X10_choose
set_option maxRecDepth 20000 in
theorem ggX10_against_X4_sayingsNotBy : GoodIn wsX10_against wsX4_sayingsNotBy := goodIn_r _ [121, 122, 123, 145, 146, 147, 148, 149, 150, 151, 152, 153] (by decide +kernel) (by decide +kernel)
set_option maxRecDepth 20000 in
theorem gX10_against_X4_sayingsNotBy : GoodIn wsX10_against (wsV RX10 213 RX4 yX4_sayingsNotBy wsX4_sayingsNotBy) := goodIn_app (goodIn_of _ (by decide +kernel)) ggX10_against_X4_sayingsNotBy
set_option maxRecDepth 20000 in
theorem ggX10_against_X0_can : GoodIn wsX10_against wsX0_can := goodIn_r _ [127, 62, 65, 166, 167, 168] (by decide +kernel) (by decide +kernel)
set_option maxRecDepth 20000 in
theorem gX10_against_X0_can : GoodIn wsX10_against (wsV RX10 216 RX0 yX0_can wsX0_can) := goodIn_app (goodIn_of _ (by decide +kernel)) ggX10_against_X0_can
theorem dX10_against_0 : decode cX10_against 0 = .ok (.aload_n 0, 1) := by decide +kernel
theorem dX10_against_1 : decode cX10_against 1 = .ok (.invokevirtual 174, 3) := by decide +kernel
theorem dX10_against_4 : decode cX10_against 4 = .ok (.iconst 0, 1) := by decide +kernel
theorem dX10_against_5 : decode cX10_against 5 = .ok (.istore_n 1, 1) := by decide +kernel
theorem dX10_against_6 : decode cX10_against 6 = .ok (.iconst 0, 1) := by decide +kernel
theorem dX10_against_7 : decode cX10_against 7 = .ok (.istore_n 2, 1) := by decide +kernel
theorem dX10_against_8 : decode cX10_against 8 = .ok (.iload_n 2, 1) := by decide +kernel
theorem dX10_against_9 : decode cX10_against 9 = .ok (.iconst 4, 1) := by decide +kernel
theorem dX10_against_10 : decode cX10_against 10 = .ok (.if_icmp .ge 33, 3) := by decide +kernel
theorem dX10_against_13 : decode cX10_against 13 = .ok (.aload_n 0, 1) := by decide +kernel
theorem dX10_against_14 : decode cX10_against 14 = .ok (.getfield 73, 3) := by decide +kernel
theorem dX10_against_17 : decode cX10_against 17 = .ok (.aload_n 0, 1) := by decide +kernel
theorem dX10_against_18 : decode cX10_against 18 = .ok (.getfield 12, 3) := by decide +kernel
theorem dX10_against_21 : decode cX10_against 21 = .ok (.iload_n 2, 1) := by decide +kernel
theorem dX10_against_22 : decode cX10_against 22 = .ok (.invokevirtual 213, 3) := by decide +kernel
theorem dX10_against_25 : decode cX10_against 25 = .ok (.invokevirtual 216, 3) := by decide +kernel
theorem dX10_against_28 : decode cX10_against 28 = .ok (.ifCond .eq 9, 3) := by decide +kernel
theorem dX10_against_31 : decode cX10_against 31 = .ok (.iload_n 1, 1) := by decide +kernel
theorem dX10_against_32 : decode cX10_against 32 = .ok (.iconst 1, 1) := by decide +kernel
theorem dX10_against_33 : decode cX10_against 33 = .ok (.iload_n 2, 1) := by decide +kernel
theorem dX10_against_34 : decode cX10_against 34 = .ok (.ishl, 1) := by decide +kernel
theorem dX10_against_35 : decode cX10_against 35 = .ok (.ior, 1) := by decide +kernel
theorem dX10_against_36 : decode cX10_against 36 = .ok (.istore_n 1, 1) := by decide +kernel
theorem dX10_against_37 : decode cX10_against 37 = .ok (.iinc 2 1, 3) := by decide +kernel
theorem dX10_against_40 : decode cX10_against 40 = .ok (.goto (-32), 3) := by decide +kernel
theorem dX10_against_43 : decode cX10_against 43 = .ok (.iload_n 1, 1) := by decide +kernel
theorem dX10_against_44 : decode cX10_against 44 = .ok (.ireturn, 1) := by decide +kernel
set_option maxRecDepth 20000 in
theorem ggX10_watch_X10_isEnd : GoodIn wsX10_watch wsX10_isEnd := goodIn_r _ [8, 1, 9, 15, 16, 17, 18, 19, 20, 21, 22, 23, 24, 25, 26, 27, 28, 29, 30, 31, 32, 33, 34, 35, 36, 37, 38, 39, 40] (by decide +kernel) (by decide +kernel)
set_option maxRecDepth 20000 in
theorem gX10_watch_X10_isEnd : GoodIn wsX10_watch (wsV RX10 158 RX10 yX10_isEnd wsX10_isEnd) := goodIn_app (goodIn_of _ (by decide +kernel)) ggX10_watch_X10_isEnd
set_option maxRecDepth 20000 in
theorem ggX10_watch_X10_refuse : GoodIn wsX10_watch wsX10_refuse := goodIn_r _ [13, 14, 15, 16, 17, 18, 19, 20, 21, 22, 23, 24, 25, 26, 27, 28, 29, 30, 31] (by decide +kernel) (by decide +kernel)
set_option maxRecDepth 20000 in
theorem gX10_watch_X10_refuse : GoodIn wsX10_watch (wsV RX10 95 RX10 yX10_refuse wsX10_refuse) := goodIn_app (goodIn_of _ (by decide +kernel)) ggX10_watch_X10_refuse
theorem dX10_watch_0 : decode cX10_watch 0 = .ok (.aload_n 0, 1) := by decide +kernel
theorem dX10_watch_1 : decode cX10_watch 1 = .ok (.iload_n 1, 1) := by decide +kernel
theorem dX10_watch_2 : decode cX10_watch 2 = .ok (.invokevirtual 158, 3) := by decide +kernel
theorem dX10_watch_5 : decode cX10_watch 5 = .ok (.ifCond .eq 14, 3) := by decide +kernel
theorem dX10_watch_8 : decode cX10_watch 8 = .ok (.iload_n 2, 1) := by decide +kernel
theorem dX10_watch_9 : decode cX10_watch 9 = .ok (.iconst (-1), 1) := by decide +kernel
theorem dX10_watch_10 : decode cX10_watch 10 = .ok (.if_icmp .lt 9, 3) := by decide +kernel
theorem dX10_watch_13 : decode cX10_watch 13 = .ok (.iload_n 2, 1) := by decide +kernel
theorem dX10_watch_14 : decode cX10_watch 14 = .ok (.bipush 99, 2) := by decide +kernel
theorem dX10_watch_16 : decode cX10_watch 16 = .ok (.if_icmp .le 12, 3) := by decide +kernel
theorem dX10_watch_19 : decode cX10_watch 19 = .ok (.aload_n 0, 1) := by decide +kernel
theorem dX10_watch_20 : decode cX10_watch 20 = .ok (.bipush (-2), 2) := by decide +kernel
theorem dX10_watch_22 : decode cX10_watch 22 = .ok (.bipush (-10), 2) := by decide +kernel
theorem dX10_watch_24 : decode cX10_watch 24 = .ok (.invokevirtual 95, 3) := by decide +kernel
theorem dX10_watch_27 : decode cX10_watch 27 = .ok (.ireturn, 1) := by decide +kernel
theorem dX10_watch_28 : decode cX10_watch 28 = .ok (.aload_n 0, 1) := by decide +kernel
theorem dX10_watch_29 : decode cX10_watch 29 = .ok (.getfield 12, 3) := by decide +kernel
theorem dX10_watch_32 : decode cX10_watch 32 = .ok (.getfield 219, 3) := by decide +kernel
theorem dX10_watch_35 : decode cX10_watch 35 = .ok (.iload_n 1, 1) := by decide +kernel
theorem dX10_watch_36 : decode cX10_watch 36 = .ok (.iaload, 1) := by decide +kernel
theorem dX10_watch_37 : decode cX10_watch 37 = .ok (.istore_n 3, 1) := by decide +kernel
theorem dX10_watch_38 : decode cX10_watch 38 = .ok (.aload_n 0, 1) := by decide +kernel
theorem dX10_watch_39 : decode cX10_watch 39 = .ok (.getfield 12, 3) := by decide +kernel
theorem dX10_watch_42 : decode cX10_watch 42 = .ok (.getfield 219, 3) := by decide +kernel
theorem dX10_watch_45 : decode cX10_watch 45 = .ok (.iload_n 1, 1) := by decide +kernel
theorem dX10_watch_46 : decode cX10_watch 46 = .ok (.iload_n 2, 1) := by decide +kernel
theorem dX10_watch_47 : decode cX10_watch 47 = .ok (.iastore, 1) := by decide +kernel
theorem dX10_watch_48 : decode cX10_watch 48 = .ok (.aload_n 0, 1) := by decide +kernel
theorem dX10_watch_49 : decode cX10_watch 49 = .ok (.iconst 0, 1) := by decide +kernel
theorem dX10_watch_50 : decode cX10_watch 50 = .ok (.putfield 222, 3) := by decide +kernel
theorem dX10_watch_53 : decode cX10_watch 53 = .ok (.iload_n 3, 1) := by decide +kernel
theorem dX10_watch_54 : decode cX10_watch 54 = .ok (.ireturn, 1) := by decide +kernel
set_option maxRecDepth 20000 in
theorem ggX10_minute_X10_isEnd : GoodIn wsX10_minute wsX10_isEnd := goodIn_r _ [8, 9, 10, 205, 206, 207, 208, 209, 210, 211, 212, 213, 214, 215, 216, 217, 218, 219, 220, 221, 227, 228, 229, 230, 231, 232, 233, 234, 235] (by decide +kernel) (by decide +kernel)
set_option maxRecDepth 20000 in
theorem gX10_minute_X10_isEnd : GoodIn wsX10_minute (wsV RX10 158 RX10 yX10_isEnd wsX10_isEnd) := goodIn_app (goodIn_of _ (by decide +kernel)) ggX10_minute_X10_isEnd
set_option maxRecDepth 20000 in
theorem ggX10_minute_X10_isEither : GoodIn wsX10_minute wsX10_isEither := goodIn_r _ [13] (by decide +kernel) (by decide +kernel)
set_option maxRecDepth 20000 in
theorem gX10_minute_X10_isEither : GoodIn wsX10_minute (va_wsS RX10 116 yX10_isEither wsX10_isEither) := goodIn_app (goodIn_of _ (by decide +kernel)) ggX10_minute_X10_isEither
set_option maxRecDepth 20000 in
theorem ggX10_minute_X10_refuse : GoodIn wsX10_minute wsX10_refuse := goodIn_r _ [17, 18, 205, 206, 207, 208, 209, 210, 211, 212, 213, 214, 215, 216, 217, 218, 219, 220, 221] (by decide +kernel) (by decide +kernel)
set_option maxRecDepth 20000 in
theorem gX10_minute_X10_refuse : GoodIn wsX10_minute (wsV RX10 95 RX10 yX10_refuse wsX10_refuse) := goodIn_app (goodIn_of _ (by decide +kernel)) ggX10_minute_X10_refuse
set_option maxRecDepth 20000 in
theorem ggX10_minute_X10_time : GoodIn wsX10_minute wsX10_time := goodIn_r _ [22, 23, 1, 24, 25, 9, 26, 27, 28, 7, 29, 30, 31, 10, 32, 33, 34, 35, 36, 37, 38, 39, 40, 41, 42, 43, 44, 45, 46, 47, 48, 49, 50, 51, 52, 53, 54, 55, 56, 57, 58, 59, 60, 61, 62, 63, 64, 65, 66, 67, 68, 69, 70, 71, 72, 73, 74, 75, 76, 77, 78, 79, 80, 81, 82, 83, 84, 85, 86, 87, 88, 89, 90, 91, 92, 93, 94, 95, 96, 97, 98, 99, 100, 101, 102, 103, 104, 105, 106, 107, 108, 109, 110, 111, 112, 113, 114, 115, 116, 117, 118, 119, 120, 121, 122, 123, 124, 125, 126, 127, 128, 129, 130, 131, 132, 133, 134, 135, 136, 137, 138, 139, 140, 141, 142, 143, 144, 145, 146, 147, 148, 149, 150, 151, 152, 153, 154, 155, 156, 157, 158, 159, 160, 161, 162, 163, 164, 165, 166, 167, 168, 169, 170, 171, 172, 173, 174, 175, 176, 177, 178, 179, 180, 181, 182, 183, 184, 185, 186, 187, 188, 189, 190, 191, 192, 193, 194, 195, 196, 197, 198, 199, 200, 201, 202, 203, 204, 205, 206, 207, 208, 209, 210, 211, 212, 213, 214, 215, 216, 217, 218, 219, 220, 221, 227, 228, 229, 230, 231, 232, 233, 234, 235, 236, 237, 238, 239, 240, 241, 242, 243, 244, 245, 246, 247, 248, 249, 250, 251, 252, 253, 254, 255, 256, 257, 258, 259, 260, 261, 222, 223, 224, 225, 226] (by decide +kernel) (by decide +kernel)
set_option maxRecDepth 20000 in
theorem gX10_minute_X10_time : GoodIn wsX10_minute (wsV RX10 225 RX10 yX10_time wsX10_time) := goodIn_app (goodIn_of _ (by decide +kernel)) ggX10_minute_X10_time
theorem dX10_minute_0 : decode cX10_minute 0 = .ok (.aload_n 0, 1) := by decide +kernel
theorem dX10_minute_1 : decode cX10_minute 1 = .ok (.iload_n 1, 1) := by decide +kernel
theorem dX10_minute_2 : decode cX10_minute 2 = .ok (.invokevirtual 158, 3) := by decide +kernel
theorem dX10_minute_5 : decode cX10_minute 5 = .ok (.ifCond .eq 10, 3) := by decide +kernel
theorem dX10_minute_8 : decode cX10_minute 8 = .ok (.iload_n 2, 1) := by decide +kernel
theorem dX10_minute_9 : decode cX10_minute 9 = .ok (.invokestatic 116, 3) := by decide +kernel
theorem dX10_minute_12 : decode cX10_minute 12 = .ok (.ifCond .ne 12, 3) := by decide +kernel
theorem dX10_minute_15 : decode cX10_minute 15 = .ok (.aload_n 0, 1) := by decide +kernel
theorem dX10_minute_16 : decode cX10_minute 16 = .ok (.bipush (-2), 2) := by decide +kernel
theorem dX10_minute_18 : decode cX10_minute 18 = .ok (.bipush (-2), 2) := by decide +kernel
theorem dX10_minute_20 : decode cX10_minute 20 = .ok (.invokevirtual 95, 3) := by decide +kernel
theorem dX10_minute_23 : decode cX10_minute 23 = .ok (.ireturn, 1) := by decide +kernel
theorem dX10_minute_24 : decode cX10_minute 24 = .ok (.aload_n 0, 1) := by decide +kernel
theorem dX10_minute_25 : decode cX10_minute 25 = .ok (.invokevirtual 225, 3) := by decide +kernel
theorem dX10_minute_28 : decode cX10_minute 28 = .ok (.iload_n 2, 1) := by decide +kernel
theorem dX10_minute_29 : decode cX10_minute 29 = .ok (.ifCond .ne 15, 3) := by decide +kernel
theorem dX10_minute_32 : decode cX10_minute 32 = .ok (.aload_n 0, 1) := by decide +kernel
theorem dX10_minute_33 : decode cX10_minute 33 = .ok (.getfield 80, 3) := by decide +kernel
theorem dX10_minute_36 : decode cX10_minute 36 = .ok (.getfield 228, 3) := by decide +kernel
theorem dX10_minute_39 : decode cX10_minute 39 = .ok (.iload_n 1, 1) := by decide +kernel
theorem dX10_minute_40 : decode cX10_minute 40 = .ok (.iaload, 1) := by decide +kernel
theorem dX10_minute_41 : decode cX10_minute 41 = .ok (.goto 12, 3) := by decide +kernel
theorem dX10_minute_44 : decode cX10_minute 44 = .ok (.aload_n 0, 1) := by decide +kernel
theorem dX10_minute_45 : decode cX10_minute 45 = .ok (.getfield 80, 3) := by decide +kernel
theorem dX10_minute_48 : decode cX10_minute 48 = .ok (.getfield 231, 3) := by decide +kernel
theorem dX10_minute_51 : decode cX10_minute 51 = .ok (.iload_n 1, 1) := by decide +kernel
theorem dX10_minute_52 : decode cX10_minute 52 = .ok (.iaload, 1) := by decide +kernel
theorem dX10_minute_53 : decode cX10_minute 53 = .ok (.ireturn, 1) := by decide +kernel
set_option maxRecDepth 20000 in
theorem ggX10_image_X10_isEither : GoodIn wsX10_image wsX10_isEither := goodIn_r _ [7] (by decide +kernel) (by decide +kernel)
set_option maxRecDepth 20000 in
theorem gX10_image_X10_isEither : GoodIn wsX10_image (va_wsS RX10 116 yX10_isEither wsX10_isEither) := goodIn_app (goodIn_of _ (by decide +kernel)) ggX10_image_X10_isEither
set_option maxRecDepth 20000 in
theorem ggX10_image_X10_refuse : GoodIn wsX10_image wsX10_refuse := goodIn_r _ [11, 12, 27, 28, 29, 30, 31, 32, 33, 34, 35, 36, 37, 38, 39, 40, 41, 42, 43] (by decide +kernel) (by decide +kernel)
set_option maxRecDepth 20000 in
theorem gX10_image_X10_refuse : GoodIn wsX10_image (wsV RX10 95 RX10 yX10_refuse wsX10_refuse) := goodIn_app (goodIn_of _ (by decide +kernel)) ggX10_image_X10_refuse
set_option maxRecDepth 20000 in
theorem ggX10_image_X4_copy : GoodIn wsX10_image wsX4_copy := goodIn_r _ [17, 18, 19, 20, 21, 22, 23, 24, 25, 26, 44, 45, 46, 47, 48, 49, 50, 51, 52] (by decide +kernel) (by decide +kernel)
set_option maxRecDepth 20000 in
theorem gX10_image_X4_copy : GoodIn wsX10_image (wsV RX10 147 RX4 yX4_copy wsX4_copy) := goodIn_app (goodIn_of _ (by decide +kernel)) ggX10_image_X4_copy
theorem dX10_image_0 : decode cX10_image 0 = .ok (.iload_n 1, 1) := by decide +kernel
theorem dX10_image_1 : decode cX10_image 1 = .ok (.invokestatic 116, 3) := by decide +kernel
theorem dX10_image_4 : decode cX10_image 4 = .ok (.ifCond .ne 12, 3) := by decide +kernel
theorem dX10_image_7 : decode cX10_image 7 = .ok (.aload_n 0, 1) := by decide +kernel
theorem dX10_image_8 : decode cX10_image 8 = .ok (.bipush (-2), 2) := by decide +kernel
theorem dX10_image_10 : decode cX10_image 10 = .ok (.bipush (-2), 2) := by decide +kernel
theorem dX10_image_12 : decode cX10_image 12 = .ok (.invokevirtual 95, 3) := by decide +kernel
theorem dX10_image_15 : decode cX10_image 15 = .ok (.ireturn, 1) := by decide +kernel
theorem dX10_image_16 : decode cX10_image 16 = .ok (.aload_n 0, 1) := by decide +kernel
theorem dX10_image_17 : decode cX10_image 17 = .ok (.getfield 16, 3) := by decide +kernel
theorem dX10_image_20 : decode cX10_image 20 = .ok (.iload_n 1, 1) := by decide +kernel
theorem dX10_image_21 : decode cX10_image 21 = .ok (.aaload, 1) := by decide +kernel
theorem dX10_image_22 : decode cX10_image 22 = .ok (.aload_n 0, 1) := by decide +kernel
theorem dX10_image_23 : decode cX10_image 23 = .ok (.getfield 12, 3) := by decide +kernel
theorem dX10_image_26 : decode cX10_image 26 = .ok (.invokevirtual 147, 3) := by decide +kernel
theorem dX10_image_29 : decode cX10_image 29 = .ok (.aload_n 0, 1) := by decide +kernel
theorem dX10_image_30 : decode cX10_image 30 = .ok (.getfield 20, 3) := by decide +kernel
theorem dX10_image_33 : decode cX10_image 33 = .ok (.iload_n 1, 1) := by decide +kernel
theorem dX10_image_34 : decode cX10_image 34 = .ok (.iconst 1, 1) := by decide +kernel
theorem dX10_image_35 : decode cX10_image 35 = .ok (.bastore, 1) := by decide +kernel
theorem dX10_image_36 : decode cX10_image 36 = .ok (.iconst 1, 1) := by decide +kernel
theorem dX10_image_37 : decode cX10_image 37 = .ok (.ireturn, 1) := by decide +kernel
set_option maxRecDepth 20000 in
theorem ggX10_from_X10_isEither : GoodIn wsX10_from wsX10_isEither := goodIn_r _ [7] (by decide +kernel) (by decide +kernel)
set_option maxRecDepth 20000 in
theorem gX10_from_X10_isEither : GoodIn wsX10_from (va_wsS RX10 116 yX10_isEither wsX10_isEither) := goodIn_app (goodIn_of _ (by decide +kernel)) ggX10_from_X10_isEither
set_option maxRecDepth 20000 in
theorem ggX10_from_X10_refuse : GoodIn wsX10_from wsX10_refuse := goodIn_r _ [11, 12, 35, 36, 37, 38, 39, 40, 41, 42, 43, 44, 45, 46, 47, 48, 49, 50, 51] (by decide +kernel) (by decide +kernel)
set_option maxRecDepth 20000 in
theorem gX10_from_X10_refuse : GoodIn wsX10_from (wsV RX10 95 RX10 yX10_refuse wsX10_refuse) := goodIn_app (goodIn_of _ (by decide +kernel)) ggX10_from_X10_refuse
set_option maxRecDepth 20000 in
theorem ggX10_from_X4_copy : GoodIn wsX10_from wsX4_copy := goodIn_r _ [17, 18, 19, 20, 21, 22, 23, 24, 25, 26, 52, 53, 54, 55, 56, 57, 58, 59, 60] (by decide +kernel) (by decide +kernel)
set_option maxRecDepth 20000 in
theorem gX10_from_X4_copy : GoodIn wsX10_from (wsV RX10 147 RX4 yX4_copy wsX4_copy) := goodIn_app (goodIn_of _ (by decide +kernel)) ggX10_from_X4_copy
set_option maxRecDepth 20000 in
theorem ggX10_from_X10_changed : GoodIn wsX10_from wsX10_changed := goodIn_r _ [30, 31, 32, 33, 34, 35, 36, 37, 38, 39, 40, 41, 42, 43, 44, 45, 46, 47, 48, 49, 50, 51] (by decide +kernel) (by decide +kernel)
set_option maxRecDepth 20000 in
theorem gX10_from_X10_changed : GoodIn wsX10_from (wsV RX10 99 RX10 yX10_changed wsX10_changed) := goodIn_app (goodIn_of _ (by decide +kernel)) ggX10_from_X10_changed
theorem dX10_from_0 : decode cX10_from 0 = .ok (.iload_n 1, 1) := by decide +kernel
theorem dX10_from_1 : decode cX10_from 1 = .ok (.invokestatic 116, 3) := by decide +kernel
theorem dX10_from_4 : decode cX10_from 4 = .ok (.ifCond .ne 12, 3) := by decide +kernel
theorem dX10_from_7 : decode cX10_from 7 = .ok (.aload_n 0, 1) := by decide +kernel
theorem dX10_from_8 : decode cX10_from 8 = .ok (.bipush (-2), 2) := by decide +kernel
theorem dX10_from_10 : decode cX10_from 10 = .ok (.bipush (-2), 2) := by decide +kernel
theorem dX10_from_12 : decode cX10_from 12 = .ok (.invokevirtual 95, 3) := by decide +kernel
theorem dX10_from_15 : decode cX10_from 15 = .ok (.ireturn, 1) := by decide +kernel
theorem dX10_from_16 : decode cX10_from 16 = .ok (.aload_n 0, 1) := by decide +kernel
theorem dX10_from_17 : decode cX10_from 17 = .ok (.getfield 20, 3) := by decide +kernel
theorem dX10_from_20 : decode cX10_from 20 = .ok (.iload_n 1, 1) := by decide +kernel
theorem dX10_from_21 : decode cX10_from 21 = .ok (.baload, 1) := by decide +kernel
theorem dX10_from_22 : decode cX10_from 22 = .ok (.ifCond .ne 12, 3) := by decide +kernel
theorem dX10_from_25 : decode cX10_from 25 = .ok (.aload_n 0, 1) := by decide +kernel
theorem dX10_from_26 : decode cX10_from 26 = .ok (.bipush (-3), 2) := by decide +kernel
theorem dX10_from_28 : decode cX10_from 28 = .ok (.bipush (-3), 2) := by decide +kernel
theorem dX10_from_30 : decode cX10_from 30 = .ok (.invokevirtual 95, 3) := by decide +kernel
theorem dX10_from_33 : decode cX10_from 33 = .ok (.ireturn, 1) := by decide +kernel
theorem dX10_from_34 : decode cX10_from 34 = .ok (.aload_n 0, 1) := by decide +kernel
theorem dX10_from_35 : decode cX10_from 35 = .ok (.getfield 12, 3) := by decide +kernel
theorem dX10_from_38 : decode cX10_from 38 = .ok (.aload_n 0, 1) := by decide +kernel
theorem dX10_from_39 : decode cX10_from 39 = .ok (.getfield 16, 3) := by decide +kernel
theorem dX10_from_42 : decode cX10_from 42 = .ok (.iload_n 1, 1) := by decide +kernel
theorem dX10_from_43 : decode cX10_from 43 = .ok (.aaload, 1) := by decide +kernel
theorem dX10_from_44 : decode cX10_from 44 = .ok (.invokevirtual 147, 3) := by decide +kernel
theorem dX10_from_47 : decode cX10_from 47 = .ok (.aload_n 0, 1) := by decide +kernel
theorem dX10_from_48 : decode cX10_from 48 = .ok (.invokevirtual 99, 3) := by decide +kernel
theorem dX10_from_51 : decode cX10_from 51 = .ok (.iconst 1, 1) := by decide +kernel
theorem dX10_from_52 : decode cX10_from 52 = .ok (.ireturn, 1) := by decide +kernel
set_option maxRecDepth 20000 in
theorem ggX10_status_X10_refuse : GoodIn wsX10_status wsX10_refuse := goodIn_r _ [6, 1, 7, 8, 9, 10, 11, 12, 13, 14, 15, 16, 17, 18, 19, 20, 21, 22, 23] (by decide +kernel) (by decide +kernel)
set_option maxRecDepth 20000 in
theorem gX10_status_X10_refuse : GoodIn wsX10_status (wsV RX10 95 RX10 yX10_refuse wsX10_refuse) := goodIn_app (goodIn_of _ (by decide +kernel)) ggX10_status_X10_refuse
theorem dX10_status_0 : decode cX10_status 0 = .ok (.iload_n 1, 1) := by decide +kernel
theorem dX10_status_1 : decode cX10_status 1 = .ok (.ifCond .lt 8, 3) := by decide +kernel
theorem dX10_status_4 : decode cX10_status 4 = .ok (.iload_n 1, 1) := by decide +kernel
theorem dX10_status_5 : decode cX10_status 5 = .ok (.iconst 2, 1) := by decide +kernel
theorem dX10_status_6 : decode cX10_status 6 = .ok (.if_icmp .le 11, 3) := by decide +kernel
theorem dX10_status_9 : decode cX10_status 9 = .ok (.aload_n 0, 1) := by decide +kernel
theorem dX10_status_10 : decode cX10_status 10 = .ok (.bipush (-2), 2) := by decide +kernel
theorem dX10_status_12 : decode cX10_status 12 = .ok (.iconst (-1), 1) := by decide +kernel
theorem dX10_status_13 : decode cX10_status 13 = .ok (.invokevirtual 95, 3) := by decide +kernel
theorem dX10_status_16 : decode cX10_status 16 = .ok (.ireturn, 1) := by decide +kernel
theorem dX10_status_17 : decode cX10_status 17 = .ok (.aload_n 0, 1) := by decide +kernel
theorem dX10_status_18 : decode cX10_status 18 = .ok (.getfield 38, 3) := by decide +kernel
theorem dX10_status_21 : decode cX10_status 21 = .ok (.iload_n 1, 1) := by decide +kernel
theorem dX10_status_22 : decode cX10_status 22 = .ok (.iaload, 1) := by decide +kernel
theorem dX10_status_23 : decode cX10_status 23 = .ok (.ireturn, 1) := by decide +kernel
set_option maxRecDepth 20000 in
theorem ggX10_count_X4_watched : GoodIn wsX10_count wsX4_watched := goodIn_r _ [10, 11, 12, 36, 37, 38, 39, 40, 41, 42, 43, 44] (by decide +kernel) (by decide +kernel)
set_option maxRecDepth 20000 in
theorem gX10_count_X4_watched : GoodIn wsX10_count (wsV RX10 234 RX4 yX4_watched wsX4_watched) := goodIn_app (goodIn_of _ (by decide +kernel)) ggX10_count_X4_watched
set_option maxRecDepth 20000 in
theorem ggX10_count_X10_refuse : GoodIn wsX10_count wsX10_refuse := goodIn_r _ [17, 18, 19, 20, 21, 22, 23, 24, 25, 26, 27, 28, 29, 30, 31, 32, 33, 34, 35] (by decide +kernel) (by decide +kernel)
set_option maxRecDepth 20000 in
theorem gX10_count_X10_refuse : GoodIn wsX10_count (wsV RX10 95 RX10 yX10_refuse wsX10_refuse) := goodIn_app (goodIn_of _ (by decide +kernel)) ggX10_count_X10_refuse
theorem dX10_count_0 : decode cX10_count 0 = .ok (.iload_n 1, 1) := by decide +kernel
theorem dX10_count_1 : decode cX10_count 1 = .ok (.tableswitch 63 0 3 #[31, 39, 47, 55], 31) := by decide +kernel
theorem dX10_count_32 : decode cX10_count 32 = .ok (.aload_n 0, 1) := by decide +kernel
theorem dX10_count_33 : decode cX10_count 33 = .ok (.getfield 12, 3) := by decide +kernel
theorem dX10_count_36 : decode cX10_count 36 = .ok (.getfield 91, 3) := by decide +kernel
theorem dX10_count_39 : decode cX10_count 39 = .ok (.ireturn, 1) := by decide +kernel
theorem dX10_count_40 : decode cX10_count 40 = .ok (.aload_n 0, 1) := by decide +kernel
theorem dX10_count_41 : decode cX10_count 41 = .ok (.getfield 12, 3) := by decide +kernel
theorem dX10_count_44 : decode cX10_count 44 = .ok (.getfield 126, 3) := by decide +kernel
theorem dX10_count_47 : decode cX10_count 47 = .ok (.ireturn, 1) := by decide +kernel
theorem dX10_count_48 : decode cX10_count 48 = .ok (.aload_n 0, 1) := by decide +kernel
theorem dX10_count_49 : decode cX10_count 49 = .ok (.getfield 12, 3) := by decide +kernel
theorem dX10_count_52 : decode cX10_count 52 = .ok (.invokevirtual 234, 3) := by decide +kernel
theorem dX10_count_55 : decode cX10_count 55 = .ok (.ireturn, 1) := by decide +kernel
theorem dX10_count_56 : decode cX10_count 56 = .ok (.aload_n 0, 1) := by decide +kernel
theorem dX10_count_57 : decode cX10_count 57 = .ok (.getfield 27, 3) := by decide +kernel
theorem dX10_count_60 : decode cX10_count 60 = .ok (.getfield 133, 3) := by decide +kernel
theorem dX10_count_63 : decode cX10_count 63 = .ok (.ireturn, 1) := by decide +kernel
theorem dX10_count_64 : decode cX10_count 64 = .ok (.aload_n 0, 1) := by decide +kernel
theorem dX10_count_65 : decode cX10_count 65 = .ok (.bipush (-2), 2) := by decide +kernel
theorem dX10_count_67 : decode cX10_count 67 = .ok (.bipush (-2), 2) := by decide +kernel
theorem dX10_count_69 : decode cX10_count 69 = .ok (.invokevirtual 95, 3) := by decide +kernel
theorem dX10_count_72 : decode cX10_count 72 = .ok (.ireturn, 1) := by decide +kernel
set_option maxRecDepth 20000 in
theorem ggX10_digest_X4_digestWith : GoodIn wsX10_digest wsX4_digestWith := goodIn_r _ [8, 9, 10, 11, 12, 13, 14, 15, 16, 17, 18, 19, 20, 21, 22, 7, 23, 43, 44, 45, 46, 47, 48, 49, 50, 51] (by decide +kernel) (by decide +kernel)
set_option maxRecDepth 20000 in
theorem gX10_digest_X4_digestWith : GoodIn wsX10_digest (wsV RX10 237 RX4 yX4_digestWith wsX4_digestWith) := goodIn_app (goodIn_of _ (by decide +kernel)) ggX10_digest_X4_digestWith
theorem dX10_digest_0 : decode cX10_digest 0 = .ok (.aload_n 0, 1) := by decide +kernel
theorem dX10_digest_1 : decode cX10_digest 1 = .ok (.getfield 12, 3) := by decide +kernel
theorem dX10_digest_4 : decode cX10_digest 4 = .ok (.aload_n 0, 1) := by decide +kernel
theorem dX10_digest_5 : decode cX10_digest 5 = .ok (.getfield 27, 3) := by decide +kernel
theorem dX10_digest_8 : decode cX10_digest 8 = .ok (.getfield 133, 3) := by decide +kernel
theorem dX10_digest_11 : decode cX10_digest 11 = .ok (.invokevirtual 237, 3) := by decide +kernel
theorem dX10_digest_14 : decode cX10_digest 14 = .ok (.lreturn, 1) := by decide +kernel
theorem dX10_refuse_0 : decode cX10_refuse 0 = .ok (.aload_n 0, 1) := by decide +kernel
theorem dX10_refuse_1 : decode cX10_refuse 1 = .ok (.getfield 38, 3) := by decide +kernel
theorem dX10_refuse_4 : decode cX10_refuse 4 = .ok (.bipush (-2), 2) := by decide +kernel
theorem dX10_refuse_6 : decode cX10_refuse 6 = .ok (.iload_n 1, 1) := by decide +kernel
theorem dX10_refuse_7 : decode cX10_refuse 7 = .ok (.isub, 1) := by decide +kernel
theorem dX10_refuse_8 : decode cX10_refuse 8 = .ok (.dup2, 1) := by decide +kernel
theorem dX10_refuse_9 : decode cX10_refuse 9 = .ok (.iaload, 1) := by decide +kernel
theorem dX10_refuse_10 : decode cX10_refuse 10 = .ok (.iconst 1, 1) := by decide +kernel
theorem dX10_refuse_11 : decode cX10_refuse 11 = .ok (.iadd, 1) := by decide +kernel
theorem dX10_refuse_12 : decode cX10_refuse 12 = .ok (.iastore, 1) := by decide +kernel
theorem dX10_refuse_13 : decode cX10_refuse 13 = .ok (.iload_n 2, 1) := by decide +kernel
theorem dX10_refuse_14 : decode cX10_refuse 14 = .ok (.ireturn, 1) := by decide +kernel
theorem dX10_isThing_0 : decode cX10_isThing 0 = .ok (.iload_n 1, 1) := by decide +kernel
theorem dX10_isThing_1 : decode cX10_isThing 1 = .ok (.ifCond .lt 18, 3) := by decide +kernel
theorem dX10_isThing_4 : decode cX10_isThing 4 = .ok (.iload_n 1, 1) := by decide +kernel
theorem dX10_isThing_5 : decode cX10_isThing 5 = .ok (.aload_n 0, 1) := by decide +kernel
theorem dX10_isThing_6 : decode cX10_isThing 6 = .ok (.getfield 12, 3) := by decide +kernel
theorem dX10_isThing_9 : decode cX10_isThing 9 = .ok (.getfield 91, 3) := by decide +kernel
theorem dX10_isThing_12 : decode cX10_isThing 12 = .ok (.if_icmp .ge 7, 3) := by decide +kernel
theorem dX10_isThing_15 : decode cX10_isThing 15 = .ok (.iconst 1, 1) := by decide +kernel
theorem dX10_isThing_16 : decode cX10_isThing 16 = .ok (.goto 4, 3) := by decide +kernel
theorem dX10_isThing_19 : decode cX10_isThing 19 = .ok (.iconst 0, 1) := by decide +kernel
theorem dX10_isThing_20 : decode cX10_isThing 20 = .ok (.ireturn, 1) := by decide +kernel
set_option maxRecDepth 20000 in
theorem ggX10_areTwoThings_X10_isThing : GoodIn wsX10_areTwoThings wsX10_isThing := goodIn_r _ [5, 6, 7, 8, 9, 10, 11, 12, 13, 14, 15, 16, 17, 18, 19, 20, 21, 22, 23, 24, 25, 26, 27, 28, 29, 30, 31, 32, 33] (by decide +kernel) (by decide +kernel)
set_option maxRecDepth 20000 in
theorem gX10_areTwoThings_X10_isThing : GoodIn wsX10_areTwoThings (wsV RX10 106 RX10 yX10_isThing wsX10_isThing) := goodIn_app (goodIn_of _ (by decide +kernel)) ggX10_areTwoThings_X10_isThing
theorem dX10_areTwoThings_0 : decode cX10_areTwoThings 0 = .ok (.aload_n 0, 1) := by decide +kernel
theorem dX10_areTwoThings_1 : decode cX10_areTwoThings 1 = .ok (.iload_n 1, 1) := by decide +kernel
theorem dX10_areTwoThings_2 : decode cX10_areTwoThings 2 = .ok (.invokevirtual 106, 3) := by decide +kernel
theorem dX10_areTwoThings_5 : decode cX10_areTwoThings 5 = .ok (.ifCond .eq 20, 3) := by decide +kernel
theorem dX10_areTwoThings_8 : decode cX10_areTwoThings 8 = .ok (.aload_n 0, 1) := by decide +kernel
theorem dX10_areTwoThings_9 : decode cX10_areTwoThings 9 = .ok (.iload_n 2, 1) := by decide +kernel
theorem dX10_areTwoThings_10 : decode cX10_areTwoThings 10 = .ok (.invokevirtual 106, 3) := by decide +kernel
theorem dX10_areTwoThings_13 : decode cX10_areTwoThings 13 = .ok (.ifCond .eq 12, 3) := by decide +kernel
theorem dX10_areTwoThings_16 : decode cX10_areTwoThings 16 = .ok (.iload_n 1, 1) := by decide +kernel
theorem dX10_areTwoThings_17 : decode cX10_areTwoThings 17 = .ok (.iload_n 2, 1) := by decide +kernel
theorem dX10_areTwoThings_18 : decode cX10_areTwoThings 18 = .ok (.if_icmp .eq 7, 3) := by decide +kernel
theorem dX10_areTwoThings_21 : decode cX10_areTwoThings 21 = .ok (.iconst 1, 1) := by decide +kernel
theorem dX10_areTwoThings_22 : decode cX10_areTwoThings 22 = .ok (.goto 4, 3) := by decide +kernel
theorem dX10_areTwoThings_25 : decode cX10_areTwoThings 25 = .ok (.iconst 0, 1) := by decide +kernel
theorem dX10_areTwoThings_26 : decode cX10_areTwoThings 26 = .ok (.ireturn, 1) := by decide +kernel
theorem dX10_isEnd_0 : decode cX10_isEnd 0 = .ok (.iload_n 1, 1) := by decide +kernel
theorem dX10_isEnd_1 : decode cX10_isEnd 1 = .ok (.ifCond .lt 20, 3) := by decide +kernel
theorem dX10_isEnd_4 : decode cX10_isEnd 4 = .ok (.iload_n 1, 1) := by decide +kernel
theorem dX10_isEnd_5 : decode cX10_isEnd 5 = .ok (.iconst 2, 1) := by decide +kernel
theorem dX10_isEnd_6 : decode cX10_isEnd 6 = .ok (.aload_n 0, 1) := by decide +kernel
theorem dX10_isEnd_7 : decode cX10_isEnd 7 = .ok (.getfield 12, 3) := by decide +kernel
theorem dX10_isEnd_10 : decode cX10_isEnd 10 = .ok (.getfield 91, 3) := by decide +kernel
theorem dX10_isEnd_13 : decode cX10_isEnd 13 = .ok (.imul, 1) := by decide +kernel
theorem dX10_isEnd_14 : decode cX10_isEnd 14 = .ok (.if_icmp .ge 7, 3) := by decide +kernel
theorem dX10_isEnd_17 : decode cX10_isEnd 17 = .ok (.iconst 1, 1) := by decide +kernel
theorem dX10_isEnd_18 : decode cX10_isEnd 18 = .ok (.goto 4, 3) := by decide +kernel
theorem dX10_isEnd_21 : decode cX10_isEnd 21 = .ok (.iconst 0, 1) := by decide +kernel
theorem dX10_isEnd_22 : decode cX10_isEnd 22 = .ok (.ireturn, 1) := by decide +kernel
theorem dX10_isPerson_0 : decode cX10_isPerson 0 = .ok (.iload_n 0, 1) := by decide +kernel
theorem dX10_isPerson_1 : decode cX10_isPerson 1 = .ok (.ifCond .lt 12, 3) := by decide +kernel
theorem dX10_isPerson_4 : decode cX10_isPerson 4 = .ok (.iload_n 0, 1) := by decide +kernel
theorem dX10_isPerson_5 : decode cX10_isPerson 5 = .ok (.iconst 4, 1) := by decide +kernel
theorem dX10_isPerson_6 : decode cX10_isPerson 6 = .ok (.if_icmp .ge 7, 3) := by decide +kernel
theorem dX10_isPerson_9 : decode cX10_isPerson 9 = .ok (.iconst 1, 1) := by decide +kernel
theorem dX10_isPerson_10 : decode cX10_isPerson 10 = .ok (.goto 4, 3) := by decide +kernel
theorem dX10_isPerson_13 : decode cX10_isPerson 13 = .ok (.iconst 0, 1) := by decide +kernel
theorem dX10_isPerson_14 : decode cX10_isPerson 14 = .ok (.ireturn, 1) := by decide +kernel
theorem dX10_isEither_0 : decode cX10_isEither 0 = .ok (.iload_n 0, 1) := by decide +kernel
theorem dX10_isEither_1 : decode cX10_isEither 1 = .ok (.ifCond .eq 8, 3) := by decide +kernel
theorem dX10_isEither_4 : decode cX10_isEither 4 = .ok (.iload_n 0, 1) := by decide +kernel
theorem dX10_isEither_5 : decode cX10_isEither 5 = .ok (.iconst 1, 1) := by decide +kernel
theorem dX10_isEither_6 : decode cX10_isEither 6 = .ok (.if_icmp .ne 7, 3) := by decide +kernel
theorem dX10_isEither_9 : decode cX10_isEither 9 = .ok (.iconst 1, 1) := by decide +kernel
theorem dX10_isEither_10 : decode cX10_isEither 10 = .ok (.goto 4, 3) := by decide +kernel
theorem dX10_isEither_13 : decode cX10_isEither 13 = .ok (.iconst 0, 1) := by decide +kernel
theorem dX10_isEither_14 : decode cX10_isEither 14 = .ok (.ireturn, 1) := by decide +kernel
theorem dX10_changed_0 : decode cX10_changed 0 = .ok (.aload_n 0, 1) := by decide +kernel
theorem dX10_changed_1 : decode cX10_changed 1 = .ok (.iconst 0, 1) := by decide +kernel
theorem dX10_changed_2 : decode cX10_changed 2 = .ok (.putfield 241, 3) := by decide +kernel
theorem dX10_changed_5 : decode cX10_changed 5 = .ok (.aload_n 0, 1) := by decide +kernel
theorem dX10_changed_6 : decode cX10_changed 6 = .ok (.iconst 0, 1) := by decide +kernel
theorem dX10_changed_7 : decode cX10_changed 7 = .ok (.putfield 244, 3) := by decide +kernel
theorem dX10_changed_10 : decode cX10_changed 10 = .ok (.aload_n 0, 1) := by decide +kernel
theorem dX10_changed_11 : decode cX10_changed 11 = .ok (.iconst 0, 1) := by decide +kernel
theorem dX10_changed_12 : decode cX10_changed 12 = .ok (.putfield 222, 3) := by decide +kernel
theorem dX10_changed_15 : decode cX10_changed 15 = .ok (.aload_n 0, 1) := by decide +kernel
theorem dX10_changed_16 : decode cX10_changed 16 = .ok (.iconst 0, 1) := by decide +kernel
theorem dX10_changed_17 : decode cX10_changed 17 = .ok (.putfield 247, 3) := by decide +kernel
theorem dX10_changed_20 : decode cX10_changed 20 = .ok (.return_, 1) := by decide +kernel
set_option maxRecDepth 20000 in
theorem ggX10_hasFit_X10_find : GoodIn wsX10_hasFit wsX10_find := goodIn_r _ [7, 8, 9, 10, 11, 12, 13, 1, 14, 15, 16, 17, 18, 19, 20, 21, 22, 23, 24, 25, 26, 27, 28, 29, 30, 31, 32, 33, 34, 35, 36, 37, 38, 39, 40, 41, 42, 43, 44, 45, 46, 47, 48, 49, 50, 51, 52, 53, 54, 55, 56, 57, 58, 59, 60, 61, 62, 63, 64, 65, 66, 67, 68, 6, 69, 70, 71, 72, 73, 74, 75, 76, 77, 78, 79, 80, 81, 82, 83, 84, 85, 86, 87, 88, 89, 90, 91, 92, 93, 94, 95, 96, 97, 98, 99, 100, 101, 102, 103, 104, 105, 106, 107, 108, 109, 110, 111, 112, 113, 114, 115, 116, 117, 118, 119, 120, 121, 122, 123, 124, 125, 126, 127, 128, 129, 130, 131, 132, 133, 134, 135, 136, 137, 138, 139, 140, 141, 142, 143, 144, 145, 146, 147, 148, 149, 150, 151, 152, 153, 154, 155, 156, 157, 158, 166, 167, 168, 169, 170, 171, 172, 173, 174, 175, 176, 177, 178, 179, 180, 181, 182, 183, 184, 185, 186, 187, 188, 189, 190, 191, 192, 193, 159, 160, 161, 162, 163, 164, 165] (by decide +kernel) (by decide +kernel)
set_option maxRecDepth 20000 in
theorem gX10_hasFit_X10_find : GoodIn wsX10_hasFit (wsV RX10 151 RX10 yX10_find wsX10_find) := goodIn_app (goodIn_of _ (by decide +kernel)) ggX10_hasFit_X10_find
theorem dX10_hasFit_0 : decode cX10_hasFit 0 = .ok (.aload_n 0, 1) := by decide +kernel
theorem dX10_hasFit_1 : decode cX10_hasFit 1 = .ok (.invokevirtual 151, 3) := by decide +kernel
theorem dX10_hasFit_4 : decode cX10_hasFit 4 = .ok (.aload_n 0, 1) := by decide +kernel
theorem dX10_hasFit_5 : decode cX10_hasFit 5 = .ok (.getfield 66, 3) := by decide +kernel
theorem dX10_hasFit_8 : decode cX10_hasFit 8 = .ok (.getfield 154, 3) := by decide +kernel
theorem dX10_hasFit_11 : decode cX10_hasFit 11 = .ok (.lconst 0, 1) := by decide +kernel
theorem dX10_hasFit_12 : decode cX10_hasFit 12 = .ok (.lcmp, 1) := by decide +kernel
theorem dX10_hasFit_13 : decode cX10_hasFit 13 = .ok (.ifCond .le 7, 3) := by decide +kernel
theorem dX10_hasFit_16 : decode cX10_hasFit 16 = .ok (.iconst 1, 1) := by decide +kernel
theorem dX10_hasFit_17 : decode cX10_hasFit 17 = .ok (.goto 4, 3) := by decide +kernel
theorem dX10_hasFit_20 : decode cX10_hasFit 20 = .ok (.iconst 0, 1) := by decide +kernel
theorem dX10_hasFit_21 : decode cX10_hasFit 21 = .ok (.ireturn, 1) := by decide +kernel
set_option maxRecDepth 20000 in
theorem ggX10_find_X2_take : GoodIn wsX10_find wsX2_take := goodIn_r _ [12, 13, 14, 15, 16, 17, 18, 19, 20, 21, 22, 23, 24, 11, 25, 26, 27, 28, 29, 30, 31, 32, 33, 34, 35, 36, 37, 38, 39, 40, 41, 42, 43, 44, 45, 46, 47, 48, 49, 50, 51, 52, 163, 164, 165, 166, 167, 168, 169, 170, 171, 172, 173, 174, 154, 155, 156, 157, 158, 159, 160, 161, 162] (by decide +kernel) (by decide +kernel)
set_option maxRecDepth 20000 in
theorem gX10_find_X2_take : GoodIn wsX10_find (wsV RX10 250 RX2 yX2_take wsX2_take) := goodIn_app (goodIn_of _ (by decide +kernel)) ggX10_find_X2_take
set_option maxRecDepth 20000 in
theorem ggX10_find_X9_lay : GoodIn wsX10_find wsX9_lay := goodIn_r _ [57, 58, 59, 60, 61, 62, 63, 64, 65, 66, 67, 68, 11, 69, 70, 71, 13, 31, 30, 33, 32, 14, 38, 39, 40, 72, 73, 74, 75, 76, 77, 78, 79, 80, 81, 56, 82, 83, 84, 85, 86, 87, 88, 89, 90, 91, 92, 93, 94, 95, 96, 175, 176, 177, 163, 164, 165, 166, 167, 168, 169, 170, 171, 172, 173, 174, 178, 179, 180, 181] (by decide +kernel) (by decide +kernel)
set_option maxRecDepth 20000 in
theorem gX10_find_X9_lay : GoodIn wsX10_find (wsV RX10 253 RX9 yX9_lay wsX9_lay) := goodIn_app (goodIn_of _ (by decide +kernel)) ggX10_find_X9_lay
set_option maxRecDepth 20000 in
theorem ggX10_find_X3_weigh : GoodIn wsX10_find wsX3_weigh := goodIn_r _ [101, 102, 103, 104, 105, 106, 107, 108, 109, 110, 56, 111, 61, 58, 112, 113, 114, 100, 115, 116, 117, 118, 119, 120, 62, 63, 64, 65, 121, 86, 87, 88, 89, 90, 91, 92, 93, 94, 95, 96, 122, 123, 124, 125, 126, 127, 128, 129, 130, 131, 132, 133, 134, 135, 136, 182, 183, 184, 185, 186, 187, 188, 175, 176, 177, 178, 179, 180, 181] (by decide +kernel) (by decide +kernel)
set_option maxRecDepth 20000 in
theorem gX10_find_X3_weigh : GoodIn wsX10_find (wsV RX10 257 RX3 yX3_weigh wsX3_weigh) := goodIn_app (goodIn_of _ (by decide +kernel)) ggX10_find_X3_weigh
theorem dX10_find_0 : decode cX10_find 0 = .ok (.aload_n 0, 1) := by decide +kernel
theorem dX10_find_1 : decode cX10_find 1 = .ok (.getfield 241, 3) := by decide +kernel
theorem dX10_find_4 : decode cX10_find 4 = .ok (.ifCond .eq 4, 3) := by decide +kernel
theorem dX10_find_7 : decode cX10_find 7 = .ok (.return_, 1) := by decide +kernel
theorem dX10_find_8 : decode cX10_find 8 = .ok (.aload_n 0, 1) := by decide +kernel
theorem dX10_find_9 : decode cX10_find 9 = .ok (.getfield 45, 3) := by decide +kernel
theorem dX10_find_12 : decode cX10_find 12 = .ok (.aload_n 0, 1) := by decide +kernel
theorem dX10_find_13 : decode cX10_find 13 = .ok (.getfield 12, 3) := by decide +kernel
theorem dX10_find_16 : decode cX10_find 16 = .ok (.invokevirtual 250, 3) := by decide +kernel
theorem dX10_find_19 : decode cX10_find 19 = .ok (.aload_n 0, 1) := by decide +kernel
theorem dX10_find_20 : decode cX10_find 20 = .ok (.getfield 59, 3) := by decide +kernel
