theorem dX11_allKept_152 : decode cX11_allKept 152 = .ok (.ifCond .eq 49, 3) := by decide +kernel
theorem dX11_allKept_155 : decode cX11_allKept 155 = .ok (.aload_n 0, 1) := by decide +kernel
theorem dX11_allKept_156 : decode cX11_allKept 156 = .ok (.getfield 7, 3) := by decide +kernel
theorem dX11_allKept_159 : decode cX11_allKept 159 = .ok (.iconst 2, 1) := by decide +kernel
theorem dX11_allKept_160 : decode cX11_allKept 160 = .ok (.iload_n 3, 1) := by decide +kernel
theorem dX11_allKept_161 : decode cX11_allKept 161 = .ok (.iadd, 1) := by decide +kernel
theorem dX11_allKept_162 : decode cX11_allKept 162 = .ok (.iaload, 1) := by decide +kernel
theorem dX11_allKept_163 : decode cX11_allKept 163 = .ok (.iconst (-1), 1) := by decide +kernel
theorem dX11_allKept_164 : decode cX11_allKept 164 = .ok (.if_icmp .eq 33, 3) := by decide +kernel
theorem dX11_allKept_167 : decode cX11_allKept 167 = .ok (.aload_n 0, 1) := by decide +kernel
theorem dX11_allKept_168 : decode cX11_allKept 168 = .ok (.getfield 7, 3) := by decide +kernel
theorem dX11_allKept_171 : decode cX11_allKept 171 = .ok (.iconst 2, 1) := by decide +kernel
theorem dX11_allKept_172 : decode cX11_allKept 172 = .ok (.iload_n 3, 1) := by decide +kernel
theorem dX11_allKept_173 : decode cX11_allKept 173 = .ok (.iadd, 1) := by decide +kernel
theorem dX11_allKept_174 : decode cX11_allKept 174 = .ok (.iaload, 1) := by decide +kernel
theorem dX11_allKept_175 : decode cX11_allKept 175 = .ok (.aload_n 0, 1) := by decide +kernel
theorem dX11_allKept_176 : decode cX11_allKept 176 = .ok (.getfield 7, 3) := by decide +kernel
theorem dX11_allKept_179 : decode cX11_allKept 179 = .ok (.iconst 2, 1) := by decide +kernel
theorem dX11_allKept_180 : decode cX11_allKept 180 = .ok (.iload 4, 2) := by decide +kernel
theorem dX11_allKept_182 : decode cX11_allKept 182 = .ok (.iadd, 1) := by decide +kernel
theorem dX11_allKept_183 : decode cX11_allKept 183 = .ok (.iaload, 1) := by decide +kernel
theorem dX11_allKept_184 : decode cX11_allKept 184 = .ok (.if_icmp .ne 13, 3) := by decide +kernel
theorem dX11_allKept_187 : decode cX11_allKept 187 = .ok (.aload_n 0, 1) := by decide +kernel
theorem dX11_allKept_188 : decode cX11_allKept 188 = .ok (.iload_n 3, 1) := by decide +kernel
theorem dX11_allKept_189 : decode cX11_allKept 189 = .ok (.iload 4, 2) := by decide +kernel
theorem dX11_allKept_191 : decode cX11_allKept 191 = .ok (.invokevirtual 174, 3) := by decide +kernel
theorem dX11_allKept_194 : decode cX11_allKept 194 = .ok (.ifCond .eq 7, 3) := by decide +kernel
theorem dX11_allKept_197 : decode cX11_allKept 197 = .ok (.iconst 1, 1) := by decide +kernel
theorem dX11_allKept_198 : decode cX11_allKept 198 = .ok (.goto 4, 3) := by decide +kernel
theorem dX11_allKept_201 : decode cX11_allKept 201 = .ok (.iconst 0, 1) := by decide +kernel
theorem dX11_allKept_202 : decode cX11_allKept 202 = .ok (.istore_n 2, 1) := by decide +kernel
theorem dX11_allKept_203 : decode cX11_allKept 203 = .ok (.iinc 4 1, 3) := by decide +kernel
theorem dX11_allKept_206 : decode cX11_allKept 206 = .ok (.goto (-61), 3) := by decide +kernel
theorem dX11_allKept_209 : decode cX11_allKept 209 = .ok (.aload_n 0, 1) := by decide +kernel
theorem dX11_allKept_210 : decode cX11_allKept 210 = .ok (.getfield 29, 3) := by decide +kernel
theorem dX11_allKept_213 : decode cX11_allKept 213 = .ok (.iload_n 3, 1) := by decide +kernel
theorem dX11_allKept_214 : decode cX11_allKept 214 = .ok (.iaload, 1) := by decide +kernel
theorem dX11_allKept_215 : decode cX11_allKept 215 = .ok (.istore 4, 2) := by decide +kernel
theorem dX11_allKept_217 : decode cX11_allKept 217 = .ok (.iload_n 2, 1) := by decide +kernel
theorem dX11_allKept_218 : decode cX11_allKept 218 = .ok (.ifCond .eq 71, 3) := by decide +kernel
theorem dX11_allKept_221 : decode cX11_allKept 221 = .ok (.iload 4, 2) := by decide +kernel
theorem dX11_allKept_223 : decode cX11_allKept 223 = .ok (.iconst (-1), 1) := by decide +kernel
theorem dX11_allKept_224 : decode cX11_allKept 224 = .ok (.if_icmp .eq 61, 3) := by decide +kernel
theorem dX11_allKept_227 : decode cX11_allKept 227 = .ok (.aload_n 0, 1) := by decide +kernel
theorem dX11_allKept_228 : decode cX11_allKept 228 = .ok (.iconst 2, 1) := by decide +kernel
theorem dX11_allKept_229 : decode cX11_allKept 229 = .ok (.iload_n 3, 1) := by decide +kernel
theorem dX11_allKept_230 : decode cX11_allKept 230 = .ok (.imul, 1) := by decide +kernel
theorem dX11_allKept_231 : decode cX11_allKept 231 = .ok (.invokevirtual 168, 3) := by decide +kernel
theorem dX11_allKept_234 : decode cX11_allKept 234 = .ok (.aload_n 0, 1) := by decide +kernel
theorem dX11_allKept_235 : decode cX11_allKept 235 = .ok (.iconst 2, 1) := by decide +kernel
theorem dX11_allKept_236 : decode cX11_allKept 236 = .ok (.iload 4, 2) := by decide +kernel
theorem dX11_allKept_238 : decode cX11_allKept 238 = .ok (.ifCond .ge 7, 3) := by decide +kernel
theorem dX11_allKept_241 : decode cX11_allKept 241 = .ok (.iconst 0, 1) := by decide +kernel
theorem dX11_allKept_242 : decode cX11_allKept 242 = .ok (.goto 5, 3) := by decide +kernel
theorem dX11_allKept_245 : decode cX11_allKept 245 = .ok (.iload 4, 2) := by decide +kernel
theorem dX11_allKept_247 : decode cX11_allKept 247 = .ok (.imul, 1) := by decide +kernel
theorem dX11_allKept_248 : decode cX11_allKept 248 = .ok (.invokevirtual 168, 3) := by decide +kernel
theorem dX11_allKept_251 : decode cX11_allKept 251 = .ok (.if_icmp .ne 38, 3) := by decide +kernel
theorem dX11_allKept_254 : decode cX11_allKept 254 = .ok (.aload_n 0, 1) := by decide +kernel
theorem dX11_allKept_255 : decode cX11_allKept 255 = .ok (.iconst 2, 1) := by decide +kernel
theorem dX11_allKept_256 : decode cX11_allKept 256 = .ok (.iload_n 3, 1) := by decide +kernel
theorem dX11_allKept_257 : decode cX11_allKept 257 = .ok (.imul, 1) := by decide +kernel
theorem dX11_allKept_258 : decode cX11_allKept 258 = .ok (.iconst 1, 1) := by decide +kernel
theorem dX11_allKept_259 : decode cX11_allKept 259 = .ok (.iadd, 1) := by decide +kernel
theorem dX11_allKept_260 : decode cX11_allKept 260 = .ok (.invokevirtual 168, 3) := by decide +kernel
theorem dX11_allKept_263 : decode cX11_allKept 263 = .ok (.aload_n 0, 1) := by decide +kernel
theorem dX11_allKept_264 : decode cX11_allKept 264 = .ok (.iconst 2, 1) := by decide +kernel
theorem dX11_allKept_265 : decode cX11_allKept 265 = .ok (.iload 4, 2) := by decide +kernel
theorem dX11_allKept_267 : decode cX11_allKept 267 = .ok (.ifCond .ge 7, 3) := by decide +kernel
theorem dX11_allKept_270 : decode cX11_allKept 270 = .ok (.iconst 0, 1) := by decide +kernel
theorem dX11_allKept_271 : decode cX11_allKept 271 = .ok (.goto 5, 3) := by decide +kernel
theorem dX11_allKept_274 : decode cX11_allKept 274 = .ok (.iload 4, 2) := by decide +kernel
theorem dX11_allKept_276 : decode cX11_allKept 276 = .ok (.imul, 1) := by decide +kernel
theorem dX11_allKept_277 : decode cX11_allKept 277 = .ok (.iconst 1, 1) := by decide +kernel
theorem dX11_allKept_278 : decode cX11_allKept 278 = .ok (.iadd, 1) := by decide +kernel
theorem dX11_allKept_279 : decode cX11_allKept 279 = .ok (.invokevirtual 168, 3) := by decide +kernel
theorem dX11_allKept_282 : decode cX11_allKept 282 = .ok (.if_icmp .ne 7, 3) := by decide +kernel
theorem dX11_allKept_285 : decode cX11_allKept 285 = .ok (.iconst 1, 1) := by decide +kernel
theorem dX11_allKept_286 : decode cX11_allKept 286 = .ok (.goto 4, 3) := by decide +kernel
theorem dX11_allKept_289 : decode cX11_allKept 289 = .ok (.iconst 0, 1) := by decide +kernel
theorem dX11_allKept_290 : decode cX11_allKept 290 = .ok (.istore_n 2, 1) := by decide +kernel
theorem dX11_allKept_291 : decode cX11_allKept 291 = .ok (.iinc 3 1, 3) := by decide +kernel
theorem dX11_allKept_294 : decode cX11_allKept 294 = .ok (.goto (-161), 3) := by decide +kernel
theorem dX11_allKept_297 : decode cX11_allKept 297 = .ok (.iload_n 2, 1) := by decide +kernel
theorem dX11_allKept_298 : decode cX11_allKept 298 = .ok (.ireturn, 1) := by decide +kernel
theorem dX11_next_0 : decode cX11_next 0 = .ok (.iconst 0, 1) := by decide +kernel
theorem dX11_next_1 : decode cX11_next 1 = .ok (.istore_n 2, 1) := by decide +kernel
theorem dX11_next_2 : decode cX11_next 2 = .ok (.iconst 0, 1) := by decide +kernel
theorem dX11_next_3 : decode cX11_next 3 = .ok (.istore_n 3, 1) := by decide +kernel
theorem dX11_next_4 : decode cX11_next 4 = .ok (.iload_n 3, 1) := by decide +kernel
theorem dX11_next_5 : decode cX11_next 5 = .ok (.aload_n 0, 1) := by decide +kernel
theorem dX11_next_6 : decode cX11_next 6 = .ok (.getfield 7, 3) := by decide +kernel
theorem dX11_next_9 : decode cX11_next 9 = .ok (.iconst 0, 1) := by decide +kernel
theorem dX11_next_10 : decode cX11_next 10 = .ok (.iaload, 1) := by decide +kernel
theorem dX11_next_11 : decode cX11_next 11 = .ok (.if_icmp .ge 49, 3) := by decide +kernel
theorem dX11_next_14 : decode cX11_next 14 = .ok (.iload_n 1, 1) := by decide +kernel
theorem dX11_next_15 : decode cX11_next 15 = .ok (.iconst 2, 1) := by decide +kernel
theorem dX11_next_16 : decode cX11_next 16 = .ok (.iload_n 3, 1) := by decide +kernel
theorem dX11_next_17 : decode cX11_next 17 = .ok (.imul, 1) := by decide +kernel
theorem dX11_next_18 : decode cX11_next 18 = .ok (.ishr, 1) := by decide +kernel
theorem dX11_next_19 : decode cX11_next 19 = .ok (.iconst 3, 1) := by decide +kernel
theorem dX11_next_20 : decode cX11_next 20 = .ok (.iand, 1) := by decide +kernel
theorem dX11_next_21 : decode cX11_next 21 = .ok (.istore 4, 2) := by decide +kernel
theorem dX11_next_23 : decode cX11_next 23 = .ok (.iload_n 2, 1) := by decide +kernel
theorem dX11_next_24 : decode cX11_next 24 = .ok (.iload 4, 2) := by decide +kernel
theorem dX11_next_26 : decode cX11_next 26 = .ok (.ifCond .ne 11, 3) := by decide +kernel
theorem dX11_next_29 : decode cX11_next 29 = .ok (.iconst 1, 1) := by decide +kernel
theorem dX11_next_30 : decode cX11_next 30 = .ok (.iconst 2, 1) := by decide +kernel
theorem dX11_next_31 : decode cX11_next 31 = .ok (.iload_n 3, 1) := by decide +kernel
theorem dX11_next_32 : decode cX11_next 32 = .ok (.imul, 1) := by decide +kernel
theorem dX11_next_33 : decode cX11_next 33 = .ok (.ishl, 1) := by decide +kernel
theorem dX11_next_34 : decode cX11_next 34 = .ok (.goto 18, 3) := by decide +kernel
theorem dX11_next_37 : decode cX11_next 37 = .ok (.iload 4, 2) := by decide +kernel
theorem dX11_next_39 : decode cX11_next 39 = .ok (.iconst 1, 1) := by decide +kernel
theorem dX11_next_40 : decode cX11_next 40 = .ok (.if_icmp .ne 11, 3) := by decide +kernel
theorem dX11_next_43 : decode cX11_next 43 = .ok (.iconst 2, 1) := by decide +kernel
theorem dX11_next_44 : decode cX11_next 44 = .ok (.iconst 2, 1) := by decide +kernel
theorem dX11_next_45 : decode cX11_next 45 = .ok (.iload_n 3, 1) := by decide +kernel
theorem dX11_next_46 : decode cX11_next 46 = .ok (.imul, 1) := by decide +kernel
theorem dX11_next_47 : decode cX11_next 47 = .ok (.ishl, 1) := by decide +kernel
theorem dX11_next_48 : decode cX11_next 48 = .ok (.goto 4, 3) := by decide +kernel
theorem dX11_next_51 : decode cX11_next 51 = .ok (.iconst 0, 1) := by decide +kernel
theorem dX11_next_52 : decode cX11_next 52 = .ok (.ior, 1) := by decide +kernel
theorem dX11_next_53 : decode cX11_next 53 = .ok (.istore_n 2, 1) := by decide +kernel
theorem dX11_next_54 : decode cX11_next 54 = .ok (.iinc 3 1, 3) := by decide +kernel
theorem dX11_next_57 : decode cX11_next 57 = .ok (.goto (-53), 3) := by decide +kernel
theorem dX11_next_60 : decode cX11_next 60 = .ok (.iload_n 2, 1) := by decide +kernel
theorem dX11_next_61 : decode cX11_next 61 = .ok (.ireturn, 1) := by decide +kernel
theorem dX11_full_0 : decode cX11_full 0 = .ok (.iconst 1, 1) := by decide +kernel
theorem dX11_full_1 : decode cX11_full 1 = .ok (.iconst 2, 1) := by decide +kernel
theorem dX11_full_2 : decode cX11_full 2 = .ok (.aload_n 0, 1) := by decide +kernel
theorem dX11_full_3 : decode cX11_full 3 = .ok (.getfield 7, 3) := by decide +kernel
theorem dX11_full_6 : decode cX11_full 6 = .ok (.iconst 0, 1) := by decide +kernel
theorem dX11_full_7 : decode cX11_full 7 = .ok (.iaload, 1) := by decide +kernel
theorem dX11_full_8 : decode cX11_full 8 = .ok (.imul, 1) := by decide +kernel
theorem dX11_full_9 : decode cX11_full 9 = .ok (.ishl, 1) := by decide +kernel
theorem dX11_full_10 : decode cX11_full 10 = .ok (.iconst 1, 1) := by decide +kernel
theorem dX11_full_11 : decode cX11_full 11 = .ok (.isub, 1) := by decide +kernel
theorem dX11_full_12 : decode cX11_full 12 = .ok (.ireturn, 1) := by decide +kernel
theorem dX11_isState_0 : decode cX11_isState 0 = .ok (.iload_n 1, 1) := by decide +kernel
theorem dX11_isState_1 : decode cX11_isState 1 = .ok (.iconst 1, 1) := by decide +kernel
theorem dX11_isState_2 : decode cX11_isState 2 = .ok (.ishr, 1) := by decide +kernel
theorem dX11_isState_3 : decode cX11_isState 3 = .ok (.sipush 1365, 3) := by decide +kernel
theorem dX11_isState_6 : decode cX11_isState 6 = .ok (.iand, 1) := by decide +kernel
theorem dX11_isState_7 : decode cX11_isState 7 = .ok (.iload_n 1, 1) := by decide +kernel
theorem dX11_isState_8 : decode cX11_isState 8 = .ok (.iconst (-1), 1) := by decide +kernel
theorem dX11_isState_9 : decode cX11_isState 9 = .ok (.ixor, 1) := by decide +kernel
theorem dX11_isState_10 : decode cX11_isState 10 = .ok (.iand, 1) := by decide +kernel
theorem dX11_isState_11 : decode cX11_isState 11 = .ok (.ifCond .ne 7, 3) := by decide +kernel
theorem dX11_isState_14 : decode cX11_isState 14 = .ok (.iconst 1, 1) := by decide +kernel
theorem dX11_isState_15 : decode cX11_isState 15 = .ok (.goto 4, 3) := by decide +kernel
theorem dX11_isState_18 : decode cX11_isState 18 = .ok (.iconst 0, 1) := by decide +kernel
theorem dX11_isState_19 : decode cX11_isState 19 = .ok (.ireturn, 1) := by decide +kernel
set_option maxRecDepth 20000 in
theorem ggX11_moves_X11_allKept : GoodIn wsX11_moves wsX11_allKept := goodIn_r _ [7, 8, 9, 10, 11, 12, 13, 14, 15, 6, 16, 17, 18, 19, 20, 2, 21, 22, 23, 24, 25, 26, 27, 28, 1, 29, 30, 31, 32, 33, 34, 35, 36, 37, 38, 39, 40, 41, 42, 43, 44, 45, 46, 47, 48, 49, 50, 51, 52, 53, 54, 55, 56, 57, 58, 59, 60] (by decide +kernel) (by decide +kernel)
set_option maxRecDepth 20000 in
theorem gX11_moves_X11_allKept : GoodIn wsX11_moves (wsV RX11 190 RX11 yX11_allKept wsX11_allKept) := goodIn_app (goodIn_of _ (by decide +kernel)) ggX11_moves_X11_allKept
theorem dX11_moves_0 : decode cX11_moves 0 = .ok (.aload_n 0, 1) := by decide +kernel
theorem dX11_moves_1 : decode cX11_moves 1 = .ok (.iload_n 1, 1) := by decide +kernel
theorem dX11_moves_2 : decode cX11_moves 2 = .ok (.putfield 159, 3) := by decide +kernel
theorem dX11_moves_5 : decode cX11_moves 5 = .ok (.aload_n 0, 1) := by decide +kernel
theorem dX11_moves_6 : decode cX11_moves 6 = .ok (.iload_n 2, 1) := by decide +kernel
theorem dX11_moves_7 : decode cX11_moves 7 = .ok (.putfield 162, 3) := by decide +kernel
theorem dX11_moves_10 : decode cX11_moves 10 = .ok (.aload_n 0, 1) := by decide +kernel
theorem dX11_moves_11 : decode cX11_moves 11 = .ok (.invokevirtual 190, 3) := by decide +kernel
theorem dX11_moves_14 : decode cX11_moves 14 = .ok (.ireturn, 1) := by decide +kernel
set_option maxRecDepth 20000 in
theorem ggX11_counts_X11_full : GoodIn wsX11_counts wsX11_full := goodIn_r _ [6, 7, 50, 51, 52, 53, 54, 55, 56, 57, 58, 59, 60, 61, 62, 63, 64, 65, 66, 67, 68, 69, 70, 71, 72, 73, 74, 75, 76, 77] (by decide +kernel) (by decide +kernel)
set_option maxRecDepth 20000 in
theorem gX11_counts_X11_full : GoodIn wsX11_counts (wsV RX11 193 RX11 yX11_full wsX11_full) := goodIn_app (goodIn_of _ (by decide +kernel)) ggX11_counts_X11_full
set_option maxRecDepth 20000 in
theorem ggX11_counts_X11_isState : GoodIn wsX11_counts wsX11_isState := goodIn_r _ [11] (by decide +kernel) (by decide +kernel)
set_option maxRecDepth 20000 in
theorem gX11_counts_X11_isState : GoodIn wsX11_counts (wsV RX11 196 RX11 yX11_isState wsX11_isState) := goodIn_app (goodIn_of _ (by decide +kernel)) ggX11_counts_X11_isState
set_option maxRecDepth 20000 in
theorem ggX11_counts_X11_next : GoodIn wsX11_counts wsX11_next := goodIn_r _ [15, 7, 50, 51, 52, 53, 54, 55, 56, 57, 58, 59, 60, 61, 62, 63, 64, 65, 66, 67, 68, 69, 70, 71, 72, 73, 74, 75, 76, 77] (by decide +kernel) (by decide +kernel)
set_option maxRecDepth 20000 in
theorem gX11_counts_X11_next : GoodIn wsX11_counts (wsV RX11 199 RX11 yX11_next wsX11_next) := goodIn_app (goodIn_of _ (by decide +kernel)) ggX11_counts_X11_next
set_option maxRecDepth 20000 in
theorem ggX11_counts_X11_moves : GoodIn wsX11_counts wsX11_moves := goodIn_r _ [19, 20, 21, 22, 23, 24, 5, 25, 7, 26, 27, 28, 29, 30, 31, 32, 33, 34, 35, 36, 37, 38, 39, 40, 41, 42, 43, 44, 45, 46, 47, 48, 49, 50, 51, 52, 53, 54, 55, 56, 57, 58, 59, 60, 61, 62, 63, 64, 65, 66, 67, 68, 69, 70, 71, 72, 73, 74, 75, 76, 77] (by decide +kernel) (by decide +kernel)
set_option maxRecDepth 20000 in
theorem gX11_counts_X11_moves : GoodIn wsX11_counts (wsV RX11 202 RX11 yX11_moves wsX11_moves) := goodIn_app (goodIn_of _ (by decide +kernel)) ggX11_counts_X11_moves
theorem dX11_counts_0 : decode cX11_counts 0 = .ok (.aload_n 0, 1) := by decide +kernel
theorem dX11_counts_1 : decode cX11_counts 1 = .ok (.invokevirtual 193, 3) := by decide +kernel
theorem dX11_counts_4 : decode cX11_counts 4 = .ok (.istore_n 1, 1) := by decide +kernel
theorem dX11_counts_5 : decode cX11_counts 5 = .ok (.iload_n 1, 1) := by decide +kernel
theorem dX11_counts_6 : decode cX11_counts 6 = .ok (.ifCond .lt 100, 3) := by decide +kernel
theorem dX11_counts_9 : decode cX11_counts 9 = .ok (.aload_n 0, 1) := by decide +kernel
theorem dX11_counts_10 : decode cX11_counts 10 = .ok (.getfield 32, 3) := by decide +kernel
theorem dX11_counts_13 : decode cX11_counts 13 = .ok (.iload_n 1, 1) := by decide +kernel
theorem dX11_counts_14 : decode cX11_counts 14 = .ok (.iload_n 1, 1) := by decide +kernel
theorem dX11_counts_15 : decode cX11_counts 15 = .ok (.aload_n 0, 1) := by decide +kernel
theorem dX11_counts_16 : decode cX11_counts 16 = .ok (.invokevirtual 193, 3) := by decide +kernel
theorem dX11_counts_19 : decode cX11_counts 19 = .ok (.if_icmp .ne 7, 3) := by decide +kernel
theorem dX11_counts_22 : decode cX11_counts 22 = .ok (.lconst 1, 1) := by decide +kernel
theorem dX11_counts_23 : decode cX11_counts 23 = .ok (.goto 4, 3) := by decide +kernel
theorem dX11_counts_26 : decode cX11_counts 26 = .ok (.lconst 0, 1) := by decide +kernel
theorem dX11_counts_27 : decode cX11_counts 27 = .ok (.lastore, 1) := by decide +kernel
theorem dX11_counts_28 : decode cX11_counts 28 = .ok (.aload_n 0, 1) := by decide +kernel
theorem dX11_counts_29 : decode cX11_counts 29 = .ok (.iload_n 1, 1) := by decide +kernel
theorem dX11_counts_30 : decode cX11_counts 30 = .ok (.invokevirtual 196, 3) := by decide +kernel
theorem dX11_counts_33 : decode cX11_counts 33 = .ok (.ifCond .eq 11, 3) := by decide +kernel
theorem dX11_counts_36 : decode cX11_counts 36 = .ok (.aload_n 0, 1) := by decide +kernel
theorem dX11_counts_37 : decode cX11_counts 37 = .ok (.iload_n 1, 1) := by decide +kernel
theorem dX11_counts_38 : decode cX11_counts 38 = .ok (.invokevirtual 199, 3) := by decide +kernel
theorem dX11_counts_41 : decode cX11_counts 41 = .ok (.goto 4, 3) := by decide +kernel
theorem dX11_counts_44 : decode cX11_counts 44 = .ok (.iconst 0, 1) := by decide +kernel
theorem dX11_counts_45 : decode cX11_counts 45 = .ok (.istore_n 2, 1) := by decide +kernel
theorem dX11_counts_46 : decode cX11_counts 46 = .ok (.iload_n 2, 1) := by decide +kernel
theorem dX11_counts_47 : decode cX11_counts 47 = .ok (.istore_n 3, 1) := by decide +kernel
theorem dX11_counts_48 : decode cX11_counts 48 = .ok (.iload_n 3, 1) := by decide +kernel
theorem dX11_counts_49 : decode cX11_counts 49 = .ok (.ifCond .le 51, 3) := by decide +kernel
theorem dX11_counts_52 : decode cX11_counts 52 = .ok (.aload_n 0, 1) := by decide +kernel
theorem dX11_counts_53 : decode cX11_counts 53 = .ok (.getfield 32, 3) := by decide +kernel
theorem dX11_counts_56 : decode cX11_counts 56 = .ok (.iload_n 1, 1) := by decide +kernel
theorem dX11_counts_57 : decode cX11_counts 57 = .ok (.iload_n 3, 1) := by decide +kernel
theorem dX11_counts_58 : decode cX11_counts 58 = .ok (.ior, 1) := by decide +kernel
theorem dX11_counts_59 : decode cX11_counts 59 = .ok (.laload, 1) := by decide +kernel
theorem dX11_counts_60 : decode cX11_counts 60 = .ok (.lconst 0, 1) := by decide +kernel
theorem dX11_counts_61 : decode cX11_counts 61 = .ok (.lcmp, 1) := by decide +kernel
theorem dX11_counts_62 : decode cX11_counts 62 = .ok (.ifCond .le 29, 3) := by decide +kernel
theorem dX11_counts_65 : decode cX11_counts 65 = .ok (.aload_n 0, 1) := by decide +kernel
theorem dX11_counts_66 : decode cX11_counts 66 = .ok (.iload_n 1, 1) := by decide +kernel
theorem dX11_counts_67 : decode cX11_counts 67 = .ok (.iload_n 3, 1) := by decide +kernel
theorem dX11_counts_68 : decode cX11_counts 68 = .ok (.invokevirtual 202, 3) := by decide +kernel
theorem dX11_counts_71 : decode cX11_counts 71 = .ok (.ifCond .eq 20, 3) := by decide +kernel
theorem dX11_counts_74 : decode cX11_counts 74 = .ok (.aload_n 0, 1) := by decide +kernel
theorem dX11_counts_75 : decode cX11_counts 75 = .ok (.getfield 32, 3) := by decide +kernel
theorem dX11_counts_78 : decode cX11_counts 78 = .ok (.iload_n 1, 1) := by decide +kernel
theorem dX11_counts_79 : decode cX11_counts 79 = .ok (.dup2, 1) := by decide +kernel
theorem dX11_counts_80 : decode cX11_counts 80 = .ok (.laload, 1) := by decide +kernel
theorem dX11_counts_81 : decode cX11_counts 81 = .ok (.aload_n 0, 1) := by decide +kernel
theorem dX11_counts_82 : decode cX11_counts 82 = .ok (.getfield 32, 3) := by decide +kernel
theorem dX11_counts_85 : decode cX11_counts 85 = .ok (.iload_n 1, 1) := by decide +kernel
theorem dX11_counts_86 : decode cX11_counts 86 = .ok (.iload_n 3, 1) := by decide +kernel
theorem dX11_counts_87 : decode cX11_counts 87 = .ok (.ior, 1) := by decide +kernel
theorem dX11_counts_88 : decode cX11_counts 88 = .ok (.laload, 1) := by decide +kernel
theorem dX11_counts_89 : decode cX11_counts 89 = .ok (.ladd, 1) := by decide +kernel
theorem dX11_counts_90 : decode cX11_counts 90 = .ok (.lastore, 1) := by decide +kernel
theorem dX11_counts_91 : decode cX11_counts 91 = .ok (.iload_n 3, 1) := by decide +kernel
theorem dX11_counts_92 : decode cX11_counts 92 = .ok (.iconst 1, 1) := by decide +kernel
theorem dX11_counts_93 : decode cX11_counts 93 = .ok (.isub, 1) := by decide +kernel
theorem dX11_counts_94 : decode cX11_counts 94 = .ok (.iload_n 2, 1) := by decide +kernel
theorem dX11_counts_95 : decode cX11_counts 95 = .ok (.iand, 1) := by decide +kernel
theorem dX11_counts_96 : decode cX11_counts 96 = .ok (.istore_n 3, 1) := by decide +kernel
theorem dX11_counts_97 : decode cX11_counts 97 = .ok (.goto (-49), 3) := by decide +kernel
theorem dX11_counts_100 : decode cX11_counts 100 = .ok (.iinc 1 (-1), 3) := by decide +kernel
theorem dX11_counts_103 : decode cX11_counts 103 = .ok (.goto (-98), 3) := by decide +kernel
theorem dX11_counts_106 : decode cX11_counts 106 = .ok (.aload_n 0, 1) := by decide +kernel
theorem dX11_counts_107 : decode cX11_counts 107 = .ok (.getfield 32, 3) := by decide +kernel
theorem dX11_counts_110 : decode cX11_counts 110 = .ok (.iconst 0, 1) := by decide +kernel
theorem dX11_counts_111 : decode cX11_counts 111 = .ok (.laload, 1) := by decide +kernel
theorem dX11_counts_112 : decode cX11_counts 112 = .ok (.lreturn, 1) := by decide +kernel
theorem dX11_plain_0 : decode cX11_plain 0 = .ok (.aload_n 0, 1) := by decide +kernel
theorem dX11_plain_1 : decode cX11_plain 1 = .ok (.sipush 255, 3) := by decide +kernel
theorem dX11_plain_4 : decode cX11_plain 4 = .ok (.putfield 184, 3) := by decide +kernel
theorem dX11_plain_7 : decode cX11_plain 7 = .ok (.aload_n 0, 1) := by decide +kernel
theorem dX11_plain_8 : decode cX11_plain 8 = .ok (.iconst (-1), 1) := by decide +kernel
theorem dX11_plain_9 : decode cX11_plain 9 = .ok (.putfield 178, 3) := by decide +kernel
theorem dX11_plain_12 : decode cX11_plain 12 = .ok (.iconst 0, 1) := by decide +kernel
theorem dX11_plain_13 : decode cX11_plain 13 = .ok (.istore_n 1, 1) := by decide +kernel
theorem dX11_plain_14 : decode cX11_plain 14 = .ok (.iload_n 1, 1) := by decide +kernel
theorem dX11_plain_15 : decode cX11_plain 15 = .ok (.bipush 6, 2) := by decide +kernel
theorem dX11_plain_17 : decode cX11_plain 17 = .ok (.if_icmp .ge 16, 3) := by decide +kernel
theorem dX11_plain_20 : decode cX11_plain 20 = .ok (.aload_n 0, 1) := by decide +kernel
theorem dX11_plain_21 : decode cX11_plain 21 = .ok (.getfield 29, 3) := by decide +kernel
theorem dX11_plain_24 : decode cX11_plain 24 = .ok (.iload_n 1, 1) := by decide +kernel
theorem dX11_plain_25 : decode cX11_plain 25 = .ok (.iconst (-1), 1) := by decide +kernel
theorem dX11_plain_26 : decode cX11_plain 26 = .ok (.iastore, 1) := by decide +kernel
theorem dX11_plain_27 : decode cX11_plain 27 = .ok (.iinc 1 1, 3) := by decide +kernel
theorem dX11_plain_30 : decode cX11_plain 30 = .ok (.goto (-16), 3) := by decide +kernel
theorem dX11_plain_33 : decode cX11_plain 33 = .ok (.return_, 1) := by decide +kernel
set_option maxRecDepth 20000 in
theorem ggX11_all_X11_plain : GoodIn wsX11_all wsX11_plain := goodIn_r _ [5, 6, 7, 8, 58, 59, 60, 61, 62, 63, 64, 65, 66, 67, 68, 69, 70, 71, 72, 73, 74, 75, 76, 77, 78, 79, 80, 81, 82, 83, 84, 85] (by decide +kernel) (by decide +kernel)
set_option maxRecDepth 20000 in
theorem gX11_all_X11_plain : GoodIn wsX11_all (wsV RX11 205 RX11 yX11_plain wsX11_plain) := goodIn_app (goodIn_of _ (by decide +kernel)) ggX11_all_X11_plain
set_option maxRecDepth 20000 in
theorem ggX11_all_X11_counts : GoodIn wsX11_all wsX11_counts := goodIn_r _ [12, 13, 14, 15, 16, 4, 17, 18, 19, 20, 21, 22, 23, 24, 25, 26, 27, 28, 29, 30, 31, 32, 33, 34, 35, 36, 7, 37, 6, 8, 38, 39, 40, 41, 42, 43, 44, 45, 46, 47, 48, 49, 50, 51, 52, 53, 54, 55, 56, 57, 58, 59, 60, 61, 62, 63, 64, 65, 66, 67, 68, 69, 70, 71, 72, 73, 74, 75, 76, 77, 78, 79, 80, 81, 82, 83, 84, 85] (by decide +kernel) (by decide +kernel)
set_option maxRecDepth 20000 in
theorem gX11_all_X11_counts : GoodIn wsX11_all (wsV RX11 208 RX11 yX11_counts wsX11_counts) := goodIn_app (goodIn_of _ (by decide +kernel)) ggX11_all_X11_counts
theorem dX11_all_0 : decode cX11_all 0 = .ok (.aload_n 0, 1) := by decide +kernel
theorem dX11_all_1 : decode cX11_all 1 = .ok (.invokevirtual 205, 3) := by decide +kernel
theorem dX11_all_4 : decode cX11_all 4 = .ok (.aload_n 0, 1) := by decide +kernel
theorem dX11_all_5 : decode cX11_all 5 = .ok (.invokevirtual 208, 3) := by decide +kernel
theorem dX11_all_8 : decode cX11_all 8 = .ok (.lreturn, 1) := by decide +kernel
set_option maxRecDepth 20000 in
theorem ggX11_fitsBy_X11_plain : GoodIn wsX11_fitsBy wsX11_plain := goodIn_r _ [6, 1, 7, 8, 58, 59, 60, 61, 62, 63, 64, 65, 66, 67, 68, 69, 70, 71, 72, 73, 74, 75, 76, 77, 78, 79, 80, 81, 82, 83, 84, 85] (by decide +kernel) (by decide +kernel)
set_option maxRecDepth 20000 in
theorem gX11_fitsBy_X11_plain : GoodIn wsX11_fitsBy (wsV RX11 205 RX11 yX11_plain wsX11_plain) := goodIn_app (goodIn_of _ (by decide +kernel)) ggX11_fitsBy_X11_plain
set_option maxRecDepth 20000 in
theorem ggX11_fitsBy_X11_counts : GoodIn wsX11_fitsBy wsX11_counts := goodIn_r _ [12, 13, 14, 15, 16, 5, 17, 18, 19, 20, 21, 22, 23, 24, 25, 26, 27, 28, 29, 30, 31, 32, 33, 34, 35, 36, 7, 37, 1, 8, 38, 39, 40, 41, 42, 43, 44, 45, 46, 47, 48, 49, 50, 51, 52, 53, 54, 55, 56, 57, 58, 59, 60, 61, 62, 63, 64, 65, 66, 67, 68, 69, 70, 71, 72, 73, 74, 75, 76, 77, 78, 79, 80, 81, 82, 83, 84, 85] (by decide +kernel) (by decide +kernel)
set_option maxRecDepth 20000 in
theorem gX11_fitsBy_X11_counts : GoodIn wsX11_fitsBy (wsV RX11 208 RX11 yX11_counts wsX11_counts) := goodIn_app (goodIn_of _ (by decide +kernel)) ggX11_fitsBy_X11_counts
theorem dX11_fitsBy_0 : decode cX11_fitsBy 0 = .ok (.aload_n 0, 1) := by decide +kernel
theorem dX11_fitsBy_1 : decode cX11_fitsBy 1 = .ok (.invokevirtual 205, 3) := by decide +kernel
theorem dX11_fitsBy_4 : decode cX11_fitsBy 4 = .ok (.aload_n 0, 1) := by decide +kernel
theorem dX11_fitsBy_5 : decode cX11_fitsBy 5 = .ok (.iload_n 1, 1) := by decide +kernel
theorem dX11_fitsBy_6 : decode cX11_fitsBy 6 = .ok (.putfield 184, 3) := by decide +kernel
theorem dX11_fitsBy_9 : decode cX11_fitsBy 9 = .ok (.aload_n 0, 1) := by decide +kernel
theorem dX11_fitsBy_10 : decode cX11_fitsBy 10 = .ok (.invokevirtual 208, 3) := by decide +kernel
theorem dX11_fitsBy_13 : decode cX11_fitsBy 13 = .ok (.lconst 0, 1) := by decide +kernel
theorem dX11_fitsBy_14 : decode cX11_fitsBy 14 = .ok (.lcmp, 1) := by decide +kernel
theorem dX11_fitsBy_15 : decode cX11_fitsBy 15 = .ok (.ifCond .le 7, 3) := by decide +kernel
theorem dX11_fitsBy_18 : decode cX11_fitsBy 18 = .ok (.iconst 1, 1) := by decide +kernel
theorem dX11_fitsBy_19 : decode cX11_fitsBy 19 = .ok (.goto 4, 3) := by decide +kernel
theorem dX11_fitsBy_22 : decode cX11_fitsBy 22 = .ok (.iconst 0, 1) := by decide +kernel
theorem dX11_fitsBy_23 : decode cX11_fitsBy 23 = .ok (.ireturn, 1) := by decide +kernel
set_option maxRecDepth 20000 in
theorem ggX11_fits_X11_all : GoodIn wsX11_fits wsX11_all := goodIn_r _ [5, 6, 7, 8, 4, 9, 10, 11, 12, 13, 14, 15, 16, 17, 18, 19, 20, 21, 22, 23, 24, 25, 26, 27, 28, 29, 30, 31, 32, 33, 34, 35, 36, 37, 38, 39, 40, 41, 42, 43, 44, 45, 46, 47, 48, 49, 50, 51, 52, 53, 54, 55, 56, 57, 58, 59, 60, 61, 62, 63, 64, 65, 66, 67, 68, 69, 70, 71, 72, 73, 74, 75, 76, 77, 78, 79, 80, 81, 82, 83, 84, 85, 86, 87, 88, 89] (by decide +kernel) (by decide +kernel)
set_option maxRecDepth 20000 in
theorem gX11_fits_X11_all : GoodIn wsX11_fits (wsV RX11 211 RX11 yX11_all wsX11_all) := goodIn_app (goodIn_of _ (by decide +kernel)) ggX11_fits_X11_all
theorem dX11_fits_0 : decode cX11_fits 0 = .ok (.aload_n 0, 1) := by decide +kernel
theorem dX11_fits_1 : decode cX11_fits 1 = .ok (.invokevirtual 211, 3) := by decide +kernel
theorem dX11_fits_4 : decode cX11_fits 4 = .ok (.lreturn, 1) := by decide +kernel
set_option maxRecDepth 20000 in
theorem ggX11_lays_X11_all : GoodIn wsX11_lays wsX11_all := goodIn_r _ [10, 11, 12, 13, 9, 14, 15, 16, 17, 18, 19, 20, 21, 2, 22, 23, 24, 25, 3, 26, 27, 28, 29, 30, 31, 32, 33, 34, 35, 36, 37, 38, 39, 40, 41, 42, 43, 44, 45, 46, 47, 48, 49, 50, 51, 52, 53, 54, 55, 56, 57, 58, 59, 60, 61, 62, 63, 64, 65, 66, 67, 68, 69, 70, 71, 72, 73, 74, 75, 76, 77, 78, 79, 80, 81, 82, 83, 84, 85, 86, 87, 88, 89, 90, 91, 92] (by decide +kernel) (by decide +kernel)
set_option maxRecDepth 20000 in
theorem gX11_lays_X11_all : GoodIn wsX11_lays (wsV RX11 211 RX11 yX11_all wsX11_all) := goodIn_app (goodIn_of _ (by decide +kernel)) ggX11_lays_X11_all
set_option maxRecDepth 20000 in
theorem ggX11_lays_X11_full : GoodIn wsX11_lays wsX11_full := goodIn_r _ [25, 3, 65, 66, 67, 68, 69, 70, 71, 72, 73, 74, 75, 76, 77, 78, 79, 80, 81, 82, 83, 84, 85, 86, 87, 88, 89, 90, 91, 92] (by decide +kernel) (by decide +kernel)
set_option maxRecDepth 20000 in
theorem gX11_lays_X11_full : GoodIn wsX11_lays (wsV RX11 193 RX11 yX11_full wsX11_full) := goodIn_app (goodIn_of _ (by decide +kernel)) ggX11_lays_X11_full
set_option maxRecDepth 20000 in
theorem ggX11_lays_X11_next : GoodIn wsX11_lays wsX11_next := goodIn_r _ [33, 3, 65, 66, 67, 68, 69, 70, 71, 72, 73, 74, 75, 76, 77, 78, 79, 80, 81, 82, 83, 84, 85, 86, 87, 88, 89, 90, 91, 92] (by decide +kernel) (by decide +kernel)
set_option maxRecDepth 20000 in
theorem gX11_lays_X11_next : GoodIn wsX11_lays (wsV RX11 199 RX11 yX11_next wsX11_next) := goodIn_app (goodIn_of _ (by decide +kernel)) ggX11_lays_X11_next
set_option maxRecDepth 20000 in
theorem ggX11_lays_X11_moves : GoodIn wsX11_lays wsX11_moves := goodIn_r _ [37, 38, 39, 40, 41, 42, 9, 43, 3, 16, 44, 15, 17, 45, 46, 47, 48, 49, 50, 51, 52, 53, 54, 55, 56, 57, 58, 59, 60, 61, 62, 63, 64, 65, 66, 67, 68, 69, 70, 71, 72, 73, 74, 75, 76, 77, 78, 79, 80, 81, 82, 83, 84, 85, 86, 87, 88, 89, 90, 91, 92] (by decide +kernel) (by decide +kernel)
set_option maxRecDepth 20000 in
theorem gX11_lays_X11_moves : GoodIn wsX11_lays (wsV RX11 202 RX11 yX11_moves wsX11_moves) := goodIn_app (goodIn_of _ (by decide +kernel)) ggX11_lays_X11_moves
theorem dX11_lays_0 : decode cX11_lays 0 = .ok (.aload_n 0, 1) := by decide +kernel
theorem dX11_lays_1 : decode cX11_lays 1 = .ok (.invokevirtual 211, 3) := by decide +kernel
theorem dX11_lays_4 : decode cX11_lays 4 = .ok (.lconst 0, 1) := by decide +kernel
theorem dX11_lays_5 : decode cX11_lays 5 = .ok (.lcmp, 1) := by decide +kernel
theorem dX11_lays_6 : decode cX11_lays 6 = .ok (.ifCond .ne 5, 3) := by decide +kernel
theorem dX11_lays_9 : decode cX11_lays 9 = .ok (.iconst 0, 1) := by decide +kernel
theorem dX11_lays_10 : decode cX11_lays 10 = .ok (.ireturn, 1) := by decide +kernel
theorem dX11_lays_11 : decode cX11_lays 11 = .ok (.iconst 0, 1) := by decide +kernel
theorem dX11_lays_12 : decode cX11_lays 12 = .ok (.istore_n 1, 1) := by decide +kernel
theorem dX11_lays_13 : decode cX11_lays 13 = .ok (.aload_n 0, 1) := by decide +kernel
theorem dX11_lays_14 : decode cX11_lays 14 = .ok (.iconst 0, 1) := by decide +kernel
theorem dX11_lays_15 : decode cX11_lays 15 = .ok (.putfield 214, 3) := by decide +kernel
theorem dX11_lays_18 : decode cX11_lays 18 = .ok (.iload_n 1, 1) := by decide +kernel
theorem dX11_lays_19 : decode cX11_lays 19 = .ok (.aload_n 0, 1) := by decide +kernel
theorem dX11_lays_20 : decode cX11_lays 20 = .ok (.invokevirtual 193, 3) := by decide +kernel
theorem dX11_lays_23 : decode cX11_lays 23 = .ok (.if_icmp .eq 127, 3) := by decide +kernel
theorem dX11_lays_26 : decode cX11_lays 26 = .ok (.aload_n 0, 1) := by decide +kernel
theorem dX11_lays_27 : decode cX11_lays 27 = .ok (.iload_n 1, 1) := by decide +kernel
theorem dX11_lays_28 : decode cX11_lays 28 = .ok (.invokevirtual 199, 3) := by decide +kernel
theorem dX11_lays_31 : decode cX11_lays 31 = .ok (.istore_n 2, 1) := by decide +kernel
theorem dX11_lays_32 : decode cX11_lays 32 = .ok (.iconst 1, 1) := by decide +kernel
theorem dX11_lays_33 : decode cX11_lays 33 = .ok (.istore_n 3, 1) := by decide +kernel
theorem dX11_lays_34 : decode cX11_lays 34 = .ok (.iload_n 3, 1) := by decide +kernel
theorem dX11_lays_35 : decode cX11_lays 35 = .ok (.iload_n 2, 1) := by decide +kernel
theorem dX11_lays_36 : decode cX11_lays 36 = .ok (.iconst (-1), 1) := by decide +kernel
theorem dX11_lays_37 : decode cX11_lays 37 = .ok (.ixor, 1) := by decide +kernel
theorem dX11_lays_38 : decode cX11_lays 38 = .ok (.iand, 1) := by decide +kernel
theorem dX11_lays_39 : decode cX11_lays 39 = .ok (.ifCond .ne 25, 3) := by decide +kernel
theorem dX11_lays_42 : decode cX11_lays 42 = .ok (.aload_n 0, 1) := by decide +kernel
theorem dX11_lays_43 : decode cX11_lays 43 = .ok (.getfield 32, 3) := by decide +kernel
theorem dX11_lays_46 : decode cX11_lays 46 = .ok (.iload_n 1, 1) := by decide +kernel
theorem dX11_lays_47 : decode cX11_lays 47 = .ok (.iload_n 3, 1) := by decide +kernel
theorem dX11_lays_48 : decode cX11_lays 48 = .ok (.ior, 1) := by decide +kernel
theorem dX11_lays_49 : decode cX11_lays 49 = .ok (.laload, 1) := by decide +kernel
theorem dX11_lays_50 : decode cX11_lays 50 = .ok (.lconst 0, 1) := by decide +kernel
theorem dX11_lays_51 : decode cX11_lays 51 = .ok (.lcmp, 1) := by decide +kernel
theorem dX11_lays_52 : decode cX11_lays 52 = .ok (.ifCond .eq 12, 3) := by decide +kernel
theorem dX11_lays_55 : decode cX11_lays 55 = .ok (.aload_n 0, 1) := by decide +kernel
theorem dX11_lays_56 : decode cX11_lays 56 = .ok (.iload_n 1, 1) := by decide +kernel
theorem dX11_lays_57 : decode cX11_lays 57 = .ok (.iload_n 3, 1) := by decide +kernel
theorem dX11_lays_58 : decode cX11_lays 58 = .ok (.invokevirtual 202, 3) := by decide +kernel
theorem dX11_lays_61 : decode cX11_lays 61 = .ok (.ifCond .ne 9, 3) := by decide +kernel
theorem dX11_lays_64 : decode cX11_lays 64 = .ok (.iinc 3 1, 3) := by decide +kernel
theorem dX11_lays_67 : decode cX11_lays 67 = .ok (.goto (-33), 3) := by decide +kernel
theorem dX11_lays_70 : decode cX11_lays 70 = .ok (.iconst 0, 1) := by decide +kernel
theorem dX11_lays_71 : decode cX11_lays 71 = .ok (.istore 4, 2) := by decide +kernel
theorem dX11_lays_73 : decode cX11_lays 73 = .ok (.iload 4, 2) := by decide +kernel
theorem dX11_lays_75 : decode cX11_lays 75 = .ok (.iconst 2, 1) := by decide +kernel
theorem dX11_lays_76 : decode cX11_lays 76 = .ok (.aload_n 0, 1) := by decide +kernel
theorem dX11_lays_77 : decode cX11_lays 77 = .ok (.getfield 7, 3) := by decide +kernel
theorem dX11_lays_80 : decode cX11_lays 80 = .ok (.iconst 0, 1) := by decide +kernel
theorem dX11_lays_81 : decode cX11_lays 81 = .ok (.iaload, 1) := by decide +kernel
theorem dX11_lays_82 : decode cX11_lays 82 = .ok (.imul, 1) := by decide +kernel
theorem dX11_lays_83 : decode cX11_lays 83 = .ok (.if_icmp .ge 40, 3) := by decide +kernel
theorem dX11_lays_86 : decode cX11_lays 86 = .ok (.aload_n 0, 1) := by decide +kernel
theorem dX11_lays_87 : decode cX11_lays 87 = .ok (.getfield 39, 3) := by decide +kernel
theorem dX11_lays_90 : decode cX11_lays 90 = .ok (.iload 4, 2) := by decide +kernel
theorem dX11_lays_92 : decode cX11_lays 92 = .ok (.iload_n 3, 1) := by decide +kernel
theorem dX11_lays_93 : decode cX11_lays 93 = .ok (.iload 4, 2) := by decide +kernel
theorem dX11_lays_95 : decode cX11_lays 95 = .ok (.ishr, 1) := by decide +kernel
theorem dX11_lays_96 : decode cX11_lays 96 = .ok (.iconst 1, 1) := by decide +kernel
theorem dX11_lays_97 : decode cX11_lays 97 = .ok (.iand, 1) := by decide +kernel
theorem dX11_lays_98 : decode cX11_lays 98 = .ok (.iconst 1, 1) := by decide +kernel
theorem dX11_lays_99 : decode cX11_lays 99 = .ok (.if_icmp .ne 10, 3) := by decide +kernel
theorem dX11_lays_102 : decode cX11_lays 102 = .ok (.aload_n 0, 1) := by decide +kernel
theorem dX11_lays_103 : decode cX11_lays 103 = .ok (.getfield 214, 3) := by decide +kernel
theorem dX11_lays_106 : decode cX11_lays 106 = .ok (.goto 10, 3) := by decide +kernel
theorem dX11_lays_109 : decode cX11_lays 109 = .ok (.aload_n 0, 1) := by decide +kernel
theorem dX11_lays_110 : decode cX11_lays 110 = .ok (.getfield 39, 3) := by decide +kernel
theorem dX11_lays_113 : decode cX11_lays 113 = .ok (.iload 4, 2) := by decide +kernel
theorem dX11_lays_115 : decode cX11_lays 115 = .ok (.iaload, 1) := by decide +kernel
theorem dX11_lays_116 : decode cX11_lays 116 = .ok (.iastore, 1) := by decide +kernel
theorem dX11_lays_117 : decode cX11_lays 117 = .ok (.iinc 4 1, 3) := by decide +kernel
theorem dX11_lays_120 : decode cX11_lays 120 = .ok (.goto (-47), 3) := by decide +kernel
theorem dX11_lays_123 : decode cX11_lays 123 = .ok (.iload_n 1, 1) := by decide +kernel
theorem dX11_lays_124 : decode cX11_lays 124 = .ok (.iload_n 3, 1) := by decide +kernel
theorem dX11_lays_125 : decode cX11_lays 125 = .ok (.ior, 1) := by decide +kernel
theorem dX11_lays_126 : decode cX11_lays 126 = .ok (.istore_n 1, 1) := by decide +kernel
theorem dX11_lays_127 : decode cX11_lays 127 = .ok (.aload_n 0, 1) := by decide +kernel
theorem dX11_lays_128 : decode cX11_lays 128 = .ok (.getfield 42, 3) := by decide +kernel
theorem dX11_lays_131 : decode cX11_lays 131 = .ok (.aload_n 0, 1) := by decide +kernel
theorem dX11_lays_132 : decode cX11_lays 132 = .ok (.getfield 214, 3) := by decide +kernel
theorem dX11_lays_135 : decode cX11_lays 135 = .ok (.iload_n 1, 1) := by decide +kernel
theorem dX11_lays_136 : decode cX11_lays 136 = .ok (.iastore, 1) := by decide +kernel
theorem dX11_lays_137 : decode cX11_lays 137 = .ok (.aload_n 0, 1) := by decide +kernel
theorem dX11_lays_138 : decode cX11_lays 138 = .ok (.dup, 1) := by decide +kernel
theorem dX11_lays_139 : decode cX11_lays 139 = .ok (.getfield 214, 3) := by decide +kernel
theorem dX11_lays_142 : decode cX11_lays 142 = .ok (.iconst 1, 1) := by decide +kernel
theorem dX11_lays_143 : decode cX11_lays 143 = .ok (.iadd, 1) := by decide +kernel
theorem dX11_lays_144 : decode cX11_lays 144 = .ok (.putfield 214, 3) := by decide +kernel
theorem dX11_lays_147 : decode cX11_lays 147 = .ok (.goto (-129), 3) := by decide +kernel
theorem dX11_lays_150 : decode cX11_lays 150 = .ok (.iconst 1, 1) := by decide +kernel
theorem dX11_lays_151 : decode cX11_lays 151 = .ok (.ireturn, 1) := by decide +kernel
set_option maxRecDepth 20000 in
theorem ggX11_first_X11_isEnd : GoodIn wsX11_first wsX11_isEnd := goodIn_r _ [6, 7, 8, 9, 5, 10, 85, 86, 87, 88, 89, 90, 91, 92, 93, 94, 95, 96, 97, 98, 99, 100, 101, 102, 103, 104, 105, 106, 107, 108, 109, 110, 111, 112] (by decide +kernel) (by decide +kernel)
set_option maxRecDepth 20000 in
theorem gX11_first_X11_isEnd : GoodIn wsX11_first (wsV RX11 217 RX11 yX11_isEnd wsX11_isEnd) := goodIn_app (goodIn_of _ (by decide +kernel)) ggX11_first_X11_isEnd
set_option maxRecDepth 20000 in
theorem ggX11_first_X11_bad : GoodIn wsX11_first wsX11_bad := goodIn_r _ [14, 15, 16, 17, 5, 18, 19, 85, 86, 87, 88, 89, 90, 91, 92, 93, 94, 95, 96, 97, 98, 99, 100, 101, 102, 103, 104, 105, 106, 107, 108, 109, 110, 111, 112] (by decide +kernel) (by decide +kernel)
set_option maxRecDepth 20000 in
theorem gX11_first_X11_bad : GoodIn wsX11_first (wsV RX11 78 RX11 yX11_bad wsX11_bad) := goodIn_app (goodIn_of _ (by decide +kernel)) ggX11_first_X11_bad
set_option maxRecDepth 20000 in
theorem ggX11_first_X11_lays : GoodIn wsX11_first wsX11_lays := goodIn_r _ [23, 24, 25, 7, 1, 26, 27, 28, 29, 5, 30, 31, 32, 33, 34, 35, 36, 37, 38, 39, 40, 41, 42, 43, 44, 45, 46, 47, 48, 49, 50, 51, 52, 53, 54, 55, 56, 57, 58, 59, 60, 61, 62, 63, 64, 65, 66, 67, 68, 69, 70, 71, 72, 73, 74, 75, 76, 77, 78, 79, 80, 81, 82, 83, 84, 85, 86, 87, 88, 89, 90, 91, 92, 93, 94, 95, 96, 97, 98, 99, 100, 101, 102, 103, 104, 105, 106, 107, 108, 109, 110, 111, 112] (by decide +kernel) (by decide +kernel)
set_option maxRecDepth 20000 in
theorem gX11_first_X11_lays : GoodIn wsX11_first (wsV RX11 220 RX11 yX11_lays wsX11_lays) := goodIn_app (goodIn_of _ (by decide +kernel)) ggX11_first_X11_lays
set_option maxRecDepth 20000 in
theorem ggX11_first_X11_refuses : GoodIn wsX11_first wsX11_refuses := goodIn_r _ [18, 19, 85, 86, 87, 88, 89, 90, 91, 92, 93, 94, 95, 96, 97, 98, 99, 100, 101, 102, 103, 104, 105, 106, 107, 108, 109, 110, 111, 112] (by decide +kernel) (by decide +kernel)
set_option maxRecDepth 20000 in
theorem gX11_first_X11_refuses : GoodIn wsX11_first (wsV RX11 66 RX11 yX11_refuses wsX11_refuses) := goodIn_app (goodIn_of _ (by decide +kernel)) ggX11_first_X11_refuses
theorem dX11_first_0 : decode cX11_first 0 = .ok (.aload_n 0, 1) := by decide +kernel
theorem dX11_first_1 : decode cX11_first 1 = .ok (.iload_n 1, 1) := by decide +kernel
theorem dX11_first_2 : decode cX11_first 2 = .ok (.invokevirtual 217, 3) := by decide +kernel
theorem dX11_first_5 : decode cX11_first 5 = .ok (.ifCond .ne 10, 3) := by decide +kernel
theorem dX11_first_8 : decode cX11_first 8 = .ok (.aload_n 0, 1) := by decide +kernel
theorem dX11_first_9 : decode cX11_first 9 = .ok (.invokevirtual 78, 3) := by decide +kernel
theorem dX11_first_12 : decode cX11_first 12 = .ok (.goto 26, 3) := by decide +kernel
theorem dX11_first_15 : decode cX11_first 15 = .ok (.aload_n 0, 1) := by decide +kernel
theorem dX11_first_16 : decode cX11_first 16 = .ok (.invokevirtual 220, 3) := by decide +kernel
theorem dX11_first_19 : decode cX11_first 19 = .ok (.ifCond .ne 13, 3) := by decide +kernel
theorem dX11_first_22 : decode cX11_first 22 = .ok (.aload_n 0, 1) := by decide +kernel
theorem dX11_first_23 : decode cX11_first 23 = .ok (.iconst 1, 1) := by decide +kernel
theorem dX11_first_24 : decode cX11_first 24 = .ok (.bipush (-3), 2) := by decide +kernel
theorem dX11_first_26 : decode cX11_first 26 = .ok (.invokevirtual 66, 3) := by decide +kernel
theorem dX11_first_29 : decode cX11_first 29 = .ok (.goto 9, 3) := by decide +kernel
theorem dX11_first_32 : decode cX11_first 32 = .ok (.aload_n 0, 1) := by decide +kernel
theorem dX11_first_33 : decode cX11_first 33 = .ok (.getfield 39, 3) := by decide +kernel
theorem dX11_first_36 : decode cX11_first 36 = .ok (.iload_n 1, 1) := by decide +kernel
theorem dX11_first_37 : decode cX11_first 37 = .ok (.iaload, 1) := by decide +kernel
theorem dX11_first_38 : decode cX11_first 38 = .ok (.ireturn, 1) := by decide +kernel
set_option maxRecDepth 20000 in
theorem ggX11_moments_X11_lays : GoodIn wsX11_moments wsX11_lays := goodIn_r _ [6, 1, 7, 8, 9, 10, 11, 12, 13, 5, 14, 15, 16, 17, 18, 19, 20, 21, 22, 23, 24, 25, 26, 27, 28, 29, 30, 31, 32, 33, 34, 35, 36, 37, 38, 39, 40, 41, 42, 43, 44, 45, 46, 47, 48, 49, 50, 51, 52, 53, 54, 55, 56, 57, 58, 59, 60, 61, 62, 63, 64, 65, 66, 67, 68, 74, 75, 76, 77, 78, 79, 80, 81, 82, 83, 84, 85, 86, 87, 88, 89, 90, 91, 92, 93, 94, 95, 96, 97, 98, 99, 100, 101] (by decide +kernel) (by decide +kernel)
set_option maxRecDepth 20000 in
theorem gX11_moments_X11_lays : GoodIn wsX11_moments (wsV RX11 220 RX11 yX11_lays wsX11_lays) := goodIn_app (goodIn_of _ (by decide +kernel)) ggX11_moments_X11_lays
set_option maxRecDepth 20000 in
theorem ggX11_moments_X11_refuses : GoodIn wsX11_moments wsX11_refuses := goodIn_r _ [72, 73, 74, 75, 76, 77, 78, 79, 80, 81, 82, 83, 84, 85, 86, 87, 88, 89, 90, 91, 92, 93, 94, 95, 96, 97, 98, 99, 100, 101] (by decide +kernel) (by decide +kernel)
set_option maxRecDepth 20000 in
theorem gX11_moments_X11_refuses : GoodIn wsX11_moments (wsV RX11 66 RX11 yX11_refuses wsX11_refuses) := goodIn_app (goodIn_of _ (by decide +kernel)) ggX11_moments_X11_refuses
theorem dX11_moments_0 : decode cX11_moments 0 = .ok (.aload_n 0, 1) := by decide +kernel
theorem dX11_moments_1 : decode cX11_moments 1 = .ok (.invokevirtual 220, 3) := by decide +kernel
theorem dX11_moments_4 : decode cX11_moments 4 = .ok (.ifCond .eq 10, 3) := by decide +kernel
theorem dX11_moments_7 : decode cX11_moments 7 = .ok (.aload_n 0, 1) := by decide +kernel
theorem dX11_moments_8 : decode cX11_moments 8 = .ok (.getfield 214, 3) := by decide +kernel
theorem dX11_moments_11 : decode cX11_moments 11 = .ok (.goto 10, 3) := by decide +kernel
theorem dX11_moments_14 : decode cX11_moments 14 = .ok (.aload_n 0, 1) := by decide +kernel
theorem dX11_moments_15 : decode cX11_moments 15 = .ok (.iconst 1, 1) := by decide +kernel
theorem dX11_moments_16 : decode cX11_moments 16 = .ok (.bipush (-3), 2) := by decide +kernel
theorem dX11_moments_18 : decode cX11_moments 18 = .ok (.invokevirtual 66, 3) := by decide +kernel
theorem dX11_moments_21 : decode cX11_moments 21 = .ok (.ireturn, 1) := by decide +kernel
set_option maxRecDepth 20000 in
theorem ggX11_last_X11_lays : GoodIn wsX11_last wsX11_lays := goodIn_r _ [8, 1, 9, 2, 10, 3, 11, 12, 13, 7, 14, 15, 16, 17, 18, 19, 20, 21, 22, 23, 24, 25, 26, 27, 28, 29, 30, 31, 32, 33, 34, 35, 36, 37, 38, 39, 40, 41, 42, 43, 44, 45, 46, 47, 48, 49, 50, 51, 52, 53, 54, 55, 56, 57, 58, 59, 60, 61, 62, 63, 64, 65, 66, 67, 68, 81, 82, 83, 84, 85, 86, 87, 88, 89, 90, 91, 92, 93, 94, 95, 96, 97, 98, 99, 100, 101, 102, 103, 104, 105, 106, 107, 108] (by decide +kernel) (by decide +kernel)
set_option maxRecDepth 20000 in
theorem gX11_last_X11_lays : GoodIn wsX11_last (wsV RX11 220 RX11 yX11_lays wsX11_lays) := goodIn_app (goodIn_of _ (by decide +kernel)) ggX11_last_X11_lays
set_option maxRecDepth 20000 in
theorem ggX11_last_X11_refuses : GoodIn wsX11_last wsX11_refuses := goodIn_r _ [72, 73, 81, 82, 83, 84, 85, 86, 87, 88, 89, 90, 91, 92, 93, 94, 95, 96, 97, 98, 99, 100, 101, 102, 103, 104, 105, 106, 107, 108] (by decide +kernel) (by decide +kernel)
set_option maxRecDepth 20000 in
theorem gX11_last_X11_refuses : GoodIn wsX11_last (wsV RX11 66 RX11 yX11_refuses wsX11_refuses) := goodIn_app (goodIn_of _ (by decide +kernel)) ggX11_last_X11_refuses
set_option maxRecDepth 20000 in
theorem ggX11_last_X11_in : GoodIn wsX11_last wsX11_in := goodIn_r _ [76] (by decide +kernel) (by decide +kernel)
set_option maxRecDepth 20000 in
theorem gX11_last_X11_in : GoodIn wsX11_last (va_wsS RX11 70 yX11_in wsX11_in) := goodIn_app (goodIn_of _ (by decide +kernel)) ggX11_last_X11_in
set_option maxRecDepth 20000 in
theorem ggX11_last_X11_bad : GoodIn wsX11_last wsX11_bad := goodIn_r _ [80, 69, 70, 71, 7, 72, 73, 81, 82, 83, 84, 85, 86, 87, 88, 89, 90, 91, 92, 93, 94, 95, 96, 97, 98, 99, 100, 101, 102, 103, 104, 105, 106, 107, 108] (by decide +kernel) (by decide +kernel)
set_option maxRecDepth 20000 in
theorem gX11_last_X11_bad : GoodIn wsX11_last (wsV RX11 78 RX11 yX11_bad wsX11_bad) := goodIn_app (goodIn_of _ (by decide +kernel)) ggX11_last_X11_bad
theorem dX11_last_0 : decode cX11_last 0 = .ok (.aload_n 0, 1) := by decide +kernel
theorem dX11_last_1 : decode cX11_last 1 = .ok (.invokevirtual 220, 3) := by decide +kernel
theorem dX11_last_4 : decode cX11_last 4 = .ok (.ifCond .ne 11, 3) := by decide +kernel
theorem dX11_last_7 : decode cX11_last 7 = .ok (.aload_n 0, 1) := by decide +kernel
theorem dX11_last_8 : decode cX11_last 8 = .ok (.iconst 1, 1) := by decide +kernel
theorem dX11_last_9 : decode cX11_last 9 = .ok (.bipush (-3), 2) := by decide +kernel
theorem dX11_last_11 : decode cX11_last 11 = .ok (.invokevirtual 66, 3) := by decide +kernel
theorem dX11_last_14 : decode cX11_last 14 = .ok (.ireturn, 1) := by decide +kernel
theorem dX11_last_15 : decode cX11_last 15 = .ok (.iload_n 1, 1) := by decide +kernel
theorem dX11_last_16 : decode cX11_last 16 = .ok (.iconst 0, 1) := by decide +kernel
theorem dX11_last_17 : decode cX11_last 17 = .ok (.aload_n 0, 1) := by decide +kernel
theorem dX11_last_18 : decode cX11_last 18 = .ok (.getfield 214, 3) := by decide +kernel
theorem dX11_last_21 : decode cX11_last 21 = .ok (.iconst 1, 1) := by decide +kernel
theorem dX11_last_22 : decode cX11_last 22 = .ok (.isub, 1) := by decide +kernel
theorem dX11_last_23 : decode cX11_last 23 = .ok (.invokestatic 70, 3) := by decide +kernel
theorem dX11_last_26 : decode cX11_last 26 = .ok (.ifCond .ne 8, 3) := by decide +kernel
theorem dX11_last_29 : decode cX11_last 29 = .ok (.aload_n 0, 1) := by decide +kernel
theorem dX11_last_30 : decode cX11_last 30 = .ok (.invokevirtual 78, 3) := by decide +kernel
theorem dX11_last_33 : decode cX11_last 33 = .ok (.ireturn, 1) := by decide +kernel
theorem dX11_last_34 : decode cX11_last 34 = .ok (.iconst 0, 1) := by decide +kernel
theorem dX11_last_35 : decode cX11_last 35 = .ok (.istore_n 2, 1) := by decide +kernel
theorem dX11_last_36 : decode cX11_last 36 = .ok (.iconst 0, 1) := by decide +kernel
theorem dX11_last_37 : decode cX11_last 37 = .ok (.istore_n 3, 1) := by decide +kernel
theorem dX11_last_38 : decode cX11_last 38 = .ok (.iload_n 3, 1) := by decide +kernel
theorem dX11_last_39 : decode cX11_last 39 = .ok (.aload_n 0, 1) := by decide +kernel
theorem dX11_last_40 : decode cX11_last 40 = .ok (.getfield 7, 3) := by decide +kernel
theorem dX11_last_43 : decode cX11_last 43 = .ok (.iconst 0, 1) := by decide +kernel
theorem dX11_last_44 : decode cX11_last 44 = .ok (.iaload, 1) := by decide +kernel
theorem dX11_last_45 : decode cX11_last 45 = .ok (.if_icmp .ge 33, 3) := by decide +kernel
theorem dX11_last_48 : decode cX11_last 48 = .ok (.iload_n 2, 1) := by decide +kernel
theorem dX11_last_49 : decode cX11_last 49 = .ok (.aload_n 0, 1) := by decide +kernel
theorem dX11_last_50 : decode cX11_last 50 = .ok (.getfield 42, 3) := by decide +kernel
theorem dX11_last_53 : decode cX11_last 53 = .ok (.iload_n 1, 1) := by decide +kernel
theorem dX11_last_54 : decode cX11_last 54 = .ok (.iaload, 1) := by decide +kernel
theorem dX11_last_55 : decode cX11_last 55 = .ok (.iconst 2, 1) := by decide +kernel
theorem dX11_last_56 : decode cX11_last 56 = .ok (.iload_n 3, 1) := by decide +kernel
theorem dX11_last_57 : decode cX11_last 57 = .ok (.imul, 1) := by decide +kernel
theorem dX11_last_58 : decode cX11_last 58 = .ok (.ishr, 1) := by decide +kernel
theorem dX11_last_59 : decode cX11_last 59 = .ok (.iconst 3, 1) := by decide +kernel
theorem dX11_last_60 : decode cX11_last 60 = .ok (.iand, 1) := by decide +kernel
theorem dX11_last_61 : decode cX11_last 61 = .ok (.iconst 1, 1) := by decide +kernel
theorem dX11_last_62 : decode cX11_last 62 = .ok (.if_icmp .ne 7, 3) := by decide +kernel
theorem dX11_last_65 : decode cX11_last 65 = .ok (.iconst 1, 1) := by decide +kernel
theorem dX11_last_66 : decode cX11_last 66 = .ok (.goto 4, 3) := by decide +kernel
theorem dX11_last_69 : decode cX11_last 69 = .ok (.iconst 0, 1) := by decide +kernel
theorem dX11_last_70 : decode cX11_last 70 = .ok (.iadd, 1) := by decide +kernel
theorem dX11_last_71 : decode cX11_last 71 = .ok (.istore_n 2, 1) := by decide +kernel
theorem dX11_last_72 : decode cX11_last 72 = .ok (.iinc 3 1, 3) := by decide +kernel
theorem dX11_last_75 : decode cX11_last 75 = .ok (.goto (-37), 3) := by decide +kernel
theorem dX11_last_78 : decode cX11_last 78 = .ok (.iload_n 2, 1) := by decide +kernel
theorem dX11_last_79 : decode cX11_last 79 = .ok (.ireturn, 1) := by decide +kernel
theorem dX11_ones_0 : decode cX11_ones 0 = .ok (.iconst 0, 1) := by decide +kernel
theorem dX11_ones_1 : decode cX11_ones 1 = .ok (.istore_n 1, 1) := by decide +kernel
theorem dX11_ones_2 : decode cX11_ones 2 = .ok (.iconst 0, 1) := by decide +kernel
theorem dX11_ones_3 : decode cX11_ones 3 = .ok (.istore_n 2, 1) := by decide +kernel
theorem dX11_ones_4 : decode cX11_ones 4 = .ok (.iload_n 2, 1) := by decide +kernel
theorem dX11_ones_5 : decode cX11_ones 5 = .ok (.bipush 12, 2) := by decide +kernel
theorem dX11_ones_7 : decode cX11_ones 7 = .ok (.if_icmp .ge 17, 3) := by decide +kernel
theorem dX11_ones_10 : decode cX11_ones 10 = .ok (.iload_n 1, 1) := by decide +kernel
theorem dX11_ones_11 : decode cX11_ones 11 = .ok (.iload_n 0, 1) := by decide +kernel
theorem dX11_ones_12 : decode cX11_ones 12 = .ok (.iload_n 2, 1) := by decide +kernel
theorem dX11_ones_13 : decode cX11_ones 13 = .ok (.ishr, 1) := by decide +kernel
theorem dX11_ones_14 : decode cX11_ones 14 = .ok (.iconst 1, 1) := by decide +kernel
theorem dX11_ones_15 : decode cX11_ones 15 = .ok (.iand, 1) := by decide +kernel
theorem dX11_ones_16 : decode cX11_ones 16 = .ok (.iadd, 1) := by decide +kernel
theorem dX11_ones_17 : decode cX11_ones 17 = .ok (.istore_n 1, 1) := by decide +kernel
theorem dX11_ones_18 : decode cX11_ones 18 = .ok (.iinc 2 1, 3) := by decide +kernel
theorem dX11_ones_21 : decode cX11_ones 21 = .ok (.goto (-17), 3) := by decide +kernel
theorem dX11_ones_24 : decode cX11_ones 24 = .ok (.iload_n 1, 1) := by decide +kernel
theorem dX11_ones_25 : decode cX11_ones 25 = .ok (.ireturn, 1) := by decide +kernel
set_option maxRecDepth 20000 in
theorem ggX11_clash_X11_fitsBy : GoodIn wsX11_clash wsX11_fitsBy := goodIn_r _ [6, 7, 8, 9, 10, 5, 11, 12, 13, 14, 15, 16, 17, 18, 19, 20, 21, 22, 1, 23, 24, 25, 26, 27, 28, 29, 30, 31, 32, 33, 34, 35, 36, 37, 38, 39, 40, 41, 42, 43, 44, 45, 46, 47, 48, 49, 50, 51, 52, 53, 54, 55, 56, 57, 58, 59, 60, 61, 65, 66, 67, 68, 69, 70, 71, 72, 73, 74, 75, 76, 77, 78, 79, 80, 81, 82, 83, 84, 85, 86, 87, 88, 89, 90, 91, 92] (by decide +kernel) (by decide +kernel)
set_option maxRecDepth 20000 in
theorem gX11_clash_X11_fitsBy : GoodIn wsX11_clash (wsV RX11 223 RX11 yX11_fitsBy wsX11_fitsBy) := goodIn_app (goodIn_of _ (by decide +kernel)) ggX11_clash_X11_fitsBy
set_option maxRecDepth 20000 in
theorem ggX11_clash_X11_ones : GoodIn wsX11_clash wsX11_ones := goodIn_r _ [64] (by decide +kernel) (by decide +kernel)
set_option maxRecDepth 20000 in
theorem gX11_clash_X11_ones : GoodIn wsX11_clash (va_wsS RX11 226 yX11_ones wsX11_ones) := goodIn_app (goodIn_of _ (by decide +kernel)) ggX11_clash_X11_ones
theorem dX11_clash_0 : decode cX11_clash 0 = .ok (.iconst 1, 1) := by decide +kernel
theorem dX11_clash_1 : decode cX11_clash 1 = .ok (.aload_n 0, 1) := by decide +kernel
theorem dX11_clash_2 : decode cX11_clash 2 = .ok (.getfield 7, 3) := by decide +kernel
theorem dX11_clash_5 : decode cX11_clash 5 = .ok (.iconst 1, 1) := by decide +kernel
theorem dX11_clash_6 : decode cX11_clash 6 = .ok (.iaload, 1) := by decide +kernel
theorem dX11_clash_7 : decode cX11_clash 7 = .ok (.ishl, 1) := by decide +kernel
theorem dX11_clash_8 : decode cX11_clash 8 = .ok (.iconst 1, 1) := by decide +kernel
theorem dX11_clash_9 : decode cX11_clash 9 = .ok (.isub, 1) := by decide +kernel
theorem dX11_clash_10 : decode cX11_clash 10 = .ok (.istore_n 1, 1) := by decide +kernel
theorem dX11_clash_11 : decode cX11_clash 11 = .ok (.aload_n 0, 1) := by decide +kernel
theorem dX11_clash_12 : decode cX11_clash 12 = .ok (.iload_n 1, 1) := by decide +kernel
theorem dX11_clash_13 : decode cX11_clash 13 = .ok (.invokevirtual 223, 3) := by decide +kernel
theorem dX11_clash_16 : decode cX11_clash 16 = .ok (.ifCond .eq 5, 3) := by decide +kernel
theorem dX11_clash_19 : decode cX11_clash 19 = .ok (.iconst (-1), 1) := by decide +kernel
theorem dX11_clash_20 : decode cX11_clash 20 = .ok (.ireturn, 1) := by decide +kernel
theorem dX11_clash_21 : decode cX11_clash 21 = .ok (.iconst 0, 1) := by decide +kernel
theorem dX11_clash_22 : decode cX11_clash 22 = .ok (.istore_n 2, 1) := by decide +kernel
theorem dX11_clash_23 : decode cX11_clash 23 = .ok (.iload_n 2, 1) := by decide +kernel
theorem dX11_clash_24 : decode cX11_clash 24 = .ok (.aload_n 0, 1) := by decide +kernel
theorem dX11_clash_25 : decode cX11_clash 25 = .ok (.getfield 7, 3) := by decide +kernel
theorem dX11_clash_28 : decode cX11_clash 28 = .ok (.iconst 1, 1) := by decide +kernel
theorem dX11_clash_29 : decode cX11_clash 29 = .ok (.iaload, 1) := by decide +kernel
theorem dX11_clash_30 : decode cX11_clash 30 = .ok (.if_icmp .gt 40, 3) := by decide +kernel
theorem dX11_clash_33 : decode cX11_clash 33 = .ok (.iconst 0, 1) := by decide +kernel
theorem dX11_clash_34 : decode cX11_clash 34 = .ok (.istore_n 3, 1) := by decide +kernel
theorem dX11_clash_35 : decode cX11_clash 35 = .ok (.iload_n 3, 1) := by decide +kernel
theorem dX11_clash_36 : decode cX11_clash 36 = .ok (.iload_n 1, 1) := by decide +kernel
theorem dX11_clash_37 : decode cX11_clash 37 = .ok (.if_icmp .gt 27, 3) := by decide +kernel
theorem dX11_clash_40 : decode cX11_clash 40 = .ok (.iload_n 3, 1) := by decide +kernel
theorem dX11_clash_41 : decode cX11_clash 41 = .ok (.invokestatic 226, 3) := by decide +kernel
theorem dX11_clash_44 : decode cX11_clash 44 = .ok (.iload_n 2, 1) := by decide +kernel
theorem dX11_clash_45 : decode cX11_clash 45 = .ok (.if_icmp .ne 13, 3) := by decide +kernel
theorem dX11_clash_48 : decode cX11_clash 48 = .ok (.aload_n 0, 1) := by decide +kernel
theorem dX11_clash_49 : decode cX11_clash 49 = .ok (.iload_n 3, 1) := by decide +kernel
theorem dX11_clash_50 : decode cX11_clash 50 = .ok (.invokevirtual 223, 3) := by decide +kernel
theorem dX11_clash_53 : decode cX11_clash 53 = .ok (.ifCond .ne 5, 3) := by decide +kernel
theorem dX11_clash_56 : decode cX11_clash 56 = .ok (.iload_n 3, 1) := by decide +kernel
theorem dX11_clash_57 : decode cX11_clash 57 = .ok (.ireturn, 1) := by decide +kernel
theorem dX11_clash_58 : decode cX11_clash 58 = .ok (.iinc 3 1, 3) := by decide +kernel
theorem dX11_clash_61 : decode cX11_clash 61 = .ok (.goto (-26), 3) := by decide +kernel
theorem dX11_clash_64 : decode cX11_clash 64 = .ok (.iinc 2 1, 3) := by decide +kernel
theorem dX11_clash_67 : decode cX11_clash 67 = .ok (.goto (-44), 3) := by decide +kernel
theorem dX11_clash_70 : decode cX11_clash 70 = .ok (.iconst (-1), 1) := by decide +kernel
theorem dX11_clash_71 : decode cX11_clash 71 = .ok (.ireturn, 1) := by decide +kernel
set_option maxRecDepth 20000 in
theorem ggX11_drop_X11_ones : GoodIn wsX11_drop wsX11_ones := goodIn_r _ [5] (by decide +kernel) (by decide +kernel)
set_option maxRecDepth 20000 in
theorem gX11_drop_X11_ones : GoodIn wsX11_drop (va_wsS RX11 226 yX11_ones wsX11_ones) := goodIn_app (goodIn_of _ (by decide +kernel)) ggX11_drop_X11_ones
set_option maxRecDepth 20000 in
theorem ggX11_drop_X11_fitsBy : GoodIn wsX11_drop wsX11_fitsBy := goodIn_r _ [9, 10, 11, 12, 13, 4, 14, 15, 16, 17, 18, 19, 20, 21, 22, 23, 24, 25, 1, 26, 27, 28, 29, 30, 31, 32, 33, 34, 35, 36, 37, 38, 39, 40, 41, 42, 43, 44, 45, 46, 47, 48, 49, 50, 51, 52, 53, 54, 55, 56, 57, 58, 59, 60, 61, 62, 63, 64, 65, 66, 67, 68, 69, 70, 71, 72, 73, 74, 75, 76, 77, 78, 79, 80, 81, 82, 83, 84, 85, 86, 87, 88, 89, 90, 91, 92] (by decide +kernel) (by decide +kernel)
set_option maxRecDepth 20000 in
theorem gX11_drop_X11_fitsBy : GoodIn wsX11_drop (wsV RX11 223 RX11 yX11_fitsBy wsX11_fitsBy) := goodIn_app (goodIn_of _ (by decide +kernel)) ggX11_drop_X11_fitsBy
theorem dX11_drop_0 : decode cX11_drop 0 = .ok (.iconst 1, 1) := by decide +kernel
theorem dX11_drop_1 : decode cX11_drop 1 = .ok (.aload_n 0, 1) := by decide +kernel
theorem dX11_drop_2 : decode cX11_drop 2 = .ok (.getfield 7, 3) := by decide +kernel
theorem dX11_drop_5 : decode cX11_drop 5 = .ok (.iconst 1, 1) := by decide +kernel
theorem dX11_drop_6 : decode cX11_drop 6 = .ok (.iaload, 1) := by decide +kernel
theorem dX11_drop_7 : decode cX11_drop 7 = .ok (.ishl, 1) := by decide +kernel
theorem dX11_drop_8 : decode cX11_drop 8 = .ok (.iconst 1, 1) := by decide +kernel
theorem dX11_drop_9 : decode cX11_drop 9 = .ok (.isub, 1) := by decide +kernel
theorem dX11_drop_10 : decode cX11_drop 10 = .ok (.istore_n 1, 1) := by decide +kernel
theorem dX11_drop_11 : decode cX11_drop 11 = .ok (.iconst 0, 1) := by decide +kernel
theorem dX11_drop_12 : decode cX11_drop 12 = .ok (.istore_n 2, 1) := by decide +kernel
theorem dX11_drop_13 : decode cX11_drop 13 = .ok (.iload_n 2, 1) := by decide +kernel
theorem dX11_drop_14 : decode cX11_drop 14 = .ok (.aload_n 0, 1) := by decide +kernel
theorem dX11_drop_15 : decode cX11_drop 15 = .ok (.getfield 7, 3) := by decide +kernel
theorem dX11_drop_18 : decode cX11_drop 18 = .ok (.iconst 1, 1) := by decide +kernel
theorem dX11_drop_19 : decode cX11_drop 19 = .ok (.iaload, 1) := by decide +kernel
theorem dX11_drop_20 : decode cX11_drop 20 = .ok (.if_icmp .ge 44, 3) := by decide +kernel
theorem dX11_drop_23 : decode cX11_drop 23 = .ok (.iconst 0, 1) := by decide +kernel
theorem dX11_drop_24 : decode cX11_drop 24 = .ok (.istore_n 3, 1) := by decide +kernel
theorem dX11_drop_25 : decode cX11_drop 25 = .ok (.iload_n 3, 1) := by decide +kernel
theorem dX11_drop_26 : decode cX11_drop 26 = .ok (.iload_n 1, 1) := by decide +kernel
theorem dX11_drop_27 : decode cX11_drop 27 = .ok (.if_icmp .gt 31, 3) := by decide +kernel
theorem dX11_drop_30 : decode cX11_drop 30 = .ok (.iload_n 3, 1) := by decide +kernel
theorem dX11_drop_31 : decode cX11_drop 31 = .ok (.invokestatic 226, 3) := by decide +kernel
theorem dX11_drop_34 : decode cX11_drop 34 = .ok (.iload_n 2, 1) := by decide +kernel
theorem dX11_drop_35 : decode cX11_drop 35 = .ok (.if_icmp .ne 17, 3) := by decide +kernel
theorem dX11_drop_38 : decode cX11_drop 38 = .ok (.aload_n 0, 1) := by decide +kernel
theorem dX11_drop_39 : decode cX11_drop 39 = .ok (.iload_n 1, 1) := by decide +kernel
theorem dX11_drop_40 : decode cX11_drop 40 = .ok (.iload_n 3, 1) := by decide +kernel
theorem dX11_drop_41 : decode cX11_drop 41 = .ok (.iconst (-1), 1) := by decide +kernel
theorem dX11_drop_42 : decode cX11_drop 42 = .ok (.ixor, 1) := by decide +kernel
theorem dX11_drop_43 : decode cX11_drop 43 = .ok (.iand, 1) := by decide +kernel
theorem dX11_drop_44 : decode cX11_drop 44 = .ok (.invokevirtual 223, 3) := by decide +kernel
theorem dX11_drop_47 : decode cX11_drop 47 = .ok (.ifCond .eq 5, 3) := by decide +kernel
theorem dX11_drop_50 : decode cX11_drop 50 = .ok (.iload_n 3, 1) := by decide +kernel
theorem dX11_drop_51 : decode cX11_drop 51 = .ok (.ireturn, 1) := by decide +kernel
theorem dX11_drop_52 : decode cX11_drop 52 = .ok (.iinc 3 1, 3) := by decide +kernel
theorem dX11_drop_55 : decode cX11_drop 55 = .ok (.goto (-30), 3) := by decide +kernel
theorem dX11_drop_58 : decode cX11_drop 58 = .ok (.iinc 2 1, 3) := by decide +kernel
theorem dX11_drop_61 : decode cX11_drop 61 = .ok (.goto (-48), 3) := by decide +kernel
theorem dX11_drop_64 : decode cX11_drop 64 = .ok (.iload_n 1, 1) := by decide +kernel
theorem dX11_drop_65 : decode cX11_drop 65 = .ok (.ireturn, 1) := by decide +kernel
set_option maxRecDepth 20000 in
theorem ggX11_tallies_X11_was : GoodIn wsX11_tallies wsX11_was := goodIn_r _ [8, 9, 15, 16, 17, 18, 19, 20, 21, 22, 23, 24, 25, 26, 27, 28, 29, 30, 31, 32, 33, 34, 35, 36, 37, 38, 39, 40, 41, 42] (by decide +kernel) (by decide +kernel)
set_option maxRecDepth 20000 in
theorem gX11_tallies_X11_was : GoodIn wsX11_tallies (wsV RX11 165 RX11 yX11_was wsX11_was) := goodIn_app (goodIn_of _ (by decide +kernel)) ggX11_tallies_X11_was
set_option maxRecDepth 20000 in
theorem ggX11_tallies_X11_is : GoodIn wsX11_tallies wsX11_is := goodIn_r _ [13, 14, 15, 16, 17, 18, 19, 20, 21, 22, 23, 24, 25, 26, 27, 28, 29, 30, 31, 32, 33, 34, 35, 36, 37, 38, 39, 40, 41, 42] (by decide +kernel) (by decide +kernel)
set_option maxRecDepth 20000 in
theorem gX11_tallies_X11_is : GoodIn wsX11_tallies (wsV RX11 168 RX11 yX11_is wsX11_is) := goodIn_app (goodIn_of _ (by decide +kernel)) ggX11_tallies_X11_is
theorem dX11_tallies_0 : decode cX11_tallies 0 = .ok (.iconst 0, 1) := by decide +kernel
theorem dX11_tallies_1 : decode cX11_tallies 1 = .ok (.istore 4, 2) := by decide +kernel
theorem dX11_tallies_3 : decode cX11_tallies 3 = .ok (.iload 4, 2) := by decide +kernel
theorem dX11_tallies_5 : decode cX11_tallies 5 = .ok (.iconst 2, 1) := by decide +kernel
theorem dX11_tallies_6 : decode cX11_tallies 6 = .ok (.aload_n 0, 1) := by decide +kernel
theorem dX11_tallies_7 : decode cX11_tallies 7 = .ok (.getfield 7, 3) := by decide +kernel
theorem dX11_tallies_10 : decode cX11_tallies 10 = .ok (.iconst 0, 1) := by decide +kernel
theorem dX11_tallies_11 : decode cX11_tallies 11 = .ok (.iaload, 1) := by decide +kernel
theorem dX11_tallies_12 : decode cX11_tallies 12 = .ok (.imul, 1) := by decide +kernel
theorem dX11_tallies_13 : decode cX11_tallies 13 = .ok (.if_icmp .ge 67, 3) := by decide +kernel
theorem dX11_tallies_16 : decode cX11_tallies 16 = .ok (.aload_n 0, 1) := by decide +kernel
theorem dX11_tallies_17 : decode cX11_tallies 17 = .ok (.getfield 45, 3) := by decide +kernel
theorem dX11_tallies_20 : decode cX11_tallies 20 = .ok (.bipush 12, 2) := by decide +kernel
theorem dX11_tallies_22 : decode cX11_tallies 22 = .ok (.iload 4, 2) := by decide +kernel
theorem dX11_tallies_24 : decode cX11_tallies 24 = .ok (.imul, 1) := by decide +kernel
theorem dX11_tallies_25 : decode cX11_tallies 25 = .ok (.iload_n 3, 1) := by decide +kernel
theorem dX11_tallies_26 : decode cX11_tallies 26 = .ok (.iadd, 1) := by decide +kernel
theorem dX11_tallies_27 : decode cX11_tallies 27 = .ok (.dup2, 1) := by decide +kernel
theorem dX11_tallies_28 : decode cX11_tallies 28 = .ok (.laload, 1) := by decide +kernel
theorem dX11_tallies_29 : decode cX11_tallies 29 = .ok (.aload_n 0, 1) := by decide +kernel
theorem dX11_tallies_30 : decode cX11_tallies 30 = .ok (.iload 4, 2) := by decide +kernel
theorem dX11_tallies_32 : decode cX11_tallies 32 = .ok (.invokevirtual 165, 3) := by decide +kernel
theorem dX11_tallies_35 : decode cX11_tallies 35 = .ok (.ifCond .eq 7, 3) := by decide +kernel
theorem dX11_tallies_38 : decode cX11_tallies 38 = .ok (.lload_n 1, 1) := by decide +kernel
theorem dX11_tallies_39 : decode cX11_tallies 39 = .ok (.goto 4, 3) := by decide +kernel
theorem dX11_tallies_42 : decode cX11_tallies 42 = .ok (.lconst 0, 1) := by decide +kernel
theorem dX11_tallies_43 : decode cX11_tallies 43 = .ok (.ladd, 1) := by decide +kernel
theorem dX11_tallies_44 : decode cX11_tallies 44 = .ok (.lastore, 1) := by decide +kernel
theorem dX11_tallies_45 : decode cX11_tallies 45 = .ok (.aload_n 0, 1) := by decide +kernel
theorem dX11_tallies_46 : decode cX11_tallies 46 = .ok (.getfield 48, 3) := by decide +kernel
theorem dX11_tallies_49 : decode cX11_tallies 49 = .ok (.bipush 12, 2) := by decide +kernel
theorem dX11_tallies_51 : decode cX11_tallies 51 = .ok (.iload 4, 2) := by decide +kernel
theorem dX11_tallies_53 : decode cX11_tallies 53 = .ok (.imul, 1) := by decide +kernel
theorem dX11_tallies_54 : decode cX11_tallies 54 = .ok (.iload_n 3, 1) := by decide +kernel
theorem dX11_tallies_55 : decode cX11_tallies 55 = .ok (.iadd, 1) := by decide +kernel
theorem dX11_tallies_56 : decode cX11_tallies 56 = .ok (.dup2, 1) := by decide +kernel
theorem dX11_tallies_57 : decode cX11_tallies 57 = .ok (.laload, 1) := by decide +kernel
theorem dX11_tallies_58 : decode cX11_tallies 58 = .ok (.aload_n 0, 1) := by decide +kernel
theorem dX11_tallies_59 : decode cX11_tallies 59 = .ok (.iload 4, 2) := by decide +kernel
theorem dX11_tallies_61 : decode cX11_tallies 61 = .ok (.invokevirtual 168, 3) := by decide +kernel
theorem dX11_tallies_64 : decode cX11_tallies 64 = .ok (.ifCond .eq 7, 3) := by decide +kernel
theorem dX11_tallies_67 : decode cX11_tallies 67 = .ok (.lload_n 1, 1) := by decide +kernel
theorem dX11_tallies_68 : decode cX11_tallies 68 = .ok (.goto 4, 3) := by decide +kernel
theorem dX11_tallies_71 : decode cX11_tallies 71 = .ok (.lconst 0, 1) := by decide +kernel
theorem dX11_tallies_72 : decode cX11_tallies 72 = .ok (.ladd, 1) := by decide +kernel
theorem dX11_tallies_73 : decode cX11_tallies 73 = .ok (.lastore, 1) := by decide +kernel
theorem dX11_tallies_74 : decode cX11_tallies 74 = .ok (.iinc 4 1, 3) := by decide +kernel
theorem dX11_tallies_77 : decode cX11_tallies 77 = .ok (.goto (-74), 3) := by decide +kernel
theorem dX11_tallies_80 : decode cX11_tallies 80 = .ok (.return_, 1) := by decide +kernel
set_option maxRecDepth 20000 in
theorem ggX11_pairs_X11_all : GoodIn wsX11_pairs wsX11_all := goodIn_r _ [10, 11, 12, 13, 9, 14, 15, 16, 17, 18, 19, 20, 21, 4, 22, 23, 24, 25, 5, 26, 27, 28, 29, 30, 31, 32, 33, 34, 35, 36, 37, 38, 39, 40, 41, 42, 43, 44, 45, 46, 47, 48, 49, 50, 51, 52, 53, 54, 55, 56, 57, 58, 59, 60, 61, 62, 63, 64, 69, 70, 71, 72, 73, 74, 75, 76, 77, 78, 79, 80, 81, 82, 83, 84, 85, 86, 87, 88, 89, 90, 91, 92, 93, 94, 95, 96] (by decide +kernel) (by decide +kernel)
set_option maxRecDepth 20000 in
theorem gX11_pairs_X11_all : GoodIn wsX11_pairs (wsV RX11 211 RX11 yX11_all wsX11_all) := goodIn_app (goodIn_of _ (by decide +kernel)) ggX11_pairs_X11_all
set_option maxRecDepth 20000 in
theorem ggX11_pairs_X11_full : GoodIn wsX11_pairs wsX11_full := goodIn_r _ [25, 5, 69, 70, 71, 72, 73, 74, 75, 76, 77, 78, 79, 80, 81, 82, 83, 84, 85, 86, 87, 88, 89, 90, 91, 92, 93, 94, 95, 96] (by decide +kernel) (by decide +kernel)
set_option maxRecDepth 20000 in
theorem gX11_pairs_X11_full : GoodIn wsX11_pairs (wsV RX11 193 RX11 yX11_full wsX11_full) := goodIn_app (goodIn_of _ (by decide +kernel)) ggX11_pairs_X11_full
set_option maxRecDepth 20000 in
theorem ggX11_pairs_X11_next : GoodIn wsX11_pairs wsX11_next := goodIn_r _ [33, 5, 69, 70, 71, 72, 73, 74, 75, 76, 77, 78, 79, 80, 81, 82, 83, 84, 85, 86, 87, 88, 89, 90, 91, 92, 93, 94, 95, 96] (by decide +kernel) (by decide +kernel)
set_option maxRecDepth 20000 in
theorem gX11_pairs_X11_next : GoodIn wsX11_pairs (wsV RX11 199 RX11 yX11_next wsX11_next) := goodIn_app (goodIn_of _ (by decide +kernel)) ggX11_pairs_X11_next
set_option maxRecDepth 20000 in
theorem ggX11_pairs_X11_moves : GoodIn wsX11_pairs wsX11_moves := goodIn_r _ [37, 38, 39, 40, 41, 42, 9, 43, 5, 16, 44, 15, 17, 45, 46, 47, 48, 49, 50, 51, 52, 53, 54, 55, 56, 57, 58, 59, 60, 61, 62, 63, 64, 69, 70, 71, 72, 73, 74, 75, 76, 77, 78, 79, 80, 81, 82, 83, 84, 85, 86, 87, 88, 89, 90, 91, 92, 93, 94, 95, 96] (by decide +kernel) (by decide +kernel)
set_option maxRecDepth 20000 in
theorem gX11_pairs_X11_moves : GoodIn wsX11_pairs (wsV RX11 202 RX11 yX11_moves wsX11_moves) := goodIn_app (goodIn_of _ (by decide +kernel)) ggX11_pairs_X11_moves
set_option maxRecDepth 20000 in
theorem ggX11_pairs_X11_is : GoodIn wsX11_pairs wsX11_is := goodIn_r _ [52, 39, 69, 70, 71, 72, 73, 74, 75, 76, 77, 78, 79, 80, 81, 82, 83, 84, 85, 86, 87, 88, 89, 90, 91, 92, 93, 94, 95, 96] (by decide +kernel) (by decide +kernel)
set_option maxRecDepth 20000 in
theorem gX11_pairs_X11_is : GoodIn wsX11_pairs (wsV RX11 168 RX11 yX11_is wsX11_is) := goodIn_app (goodIn_of _ (by decide +kernel)) ggX11_pairs_X11_is
set_option maxRecDepth 20000 in
theorem ggX11_pairs_X11_tallies : GoodIn wsX11_pairs wsX11_tallies := goodIn_r _ [68, 5, 1, 2, 57, 58, 59, 9, 60, 38, 49, 50, 51, 52, 39, 69, 70, 71, 72, 73, 74, 75, 76, 77, 78, 79, 80, 81, 82, 83, 84, 85, 86, 87, 88, 89, 90, 91, 92, 93, 94, 95, 96] (by decide +kernel) (by decide +kernel)
set_option maxRecDepth 20000 in
theorem gX11_pairs_X11_tallies : GoodIn wsX11_pairs (wsV RX11 229 RX11 yX11_tallies wsX11_tallies) := goodIn_app (goodIn_of _ (by decide +kernel)) ggX11_pairs_X11_tallies
theorem dX11_pairs_0 : decode cX11_pairs 0 = .ok (.aload_n 0, 1) := by decide +kernel
theorem dX11_pairs_1 : decode cX11_pairs 1 = .ok (.invokevirtual 211, 3) := by decide +kernel
theorem dX11_pairs_4 : decode cX11_pairs 4 = .ok (.lstore_n 1, 1) := by decide +kernel
theorem dX11_pairs_5 : decode cX11_pairs 5 = .ok (.iconst 0, 1) := by decide +kernel
theorem dX11_pairs_6 : decode cX11_pairs 6 = .ok (.istore_n 3, 1) := by decide +kernel
theorem dX11_pairs_7 : decode cX11_pairs 7 = .ok (.iload_n 3, 1) := by decide +kernel
theorem dX11_pairs_8 : decode cX11_pairs 8 = .ok (.sipush 144, 3) := by decide +kernel
theorem dX11_pairs_11 : decode cX11_pairs 11 = .ok (.if_icmp .ge 23, 3) := by decide +kernel
theorem dX11_pairs_14 : decode cX11_pairs 14 = .ok (.aload_n 0, 1) := by decide +kernel
theorem dX11_pairs_15 : decode cX11_pairs 15 = .ok (.getfield 45, 3) := by decide +kernel
theorem dX11_pairs_18 : decode cX11_pairs 18 = .ok (.iload_n 3, 1) := by decide +kernel
theorem dX11_pairs_19 : decode cX11_pairs 19 = .ok (.lconst 0, 1) := by decide +kernel
theorem dX11_pairs_20 : decode cX11_pairs 20 = .ok (.lastore, 1) := by decide +kernel
theorem dX11_pairs_21 : decode cX11_pairs 21 = .ok (.aload_n 0, 1) := by decide +kernel
theorem dX11_pairs_22 : decode cX11_pairs 22 = .ok (.getfield 48, 3) := by decide +kernel
theorem dX11_pairs_25 : decode cX11_pairs 25 = .ok (.iload_n 3, 1) := by decide +kernel
theorem dX11_pairs_26 : decode cX11_pairs 26 = .ok (.lconst 0, 1) := by decide +kernel
theorem dX11_pairs_27 : decode cX11_pairs 27 = .ok (.lastore, 1) := by decide +kernel
theorem dX11_pairs_28 : decode cX11_pairs 28 = .ok (.iinc 3 1, 3) := by decide +kernel
theorem dX11_pairs_31 : decode cX11_pairs 31 = .ok (.goto (-24), 3) := by decide +kernel
theorem dX11_pairs_34 : decode cX11_pairs 34 = .ok (.iconst 0, 1) := by decide +kernel
theorem dX11_pairs_35 : decode cX11_pairs 35 = .ok (.istore_n 3, 1) := by decide +kernel
theorem dX11_pairs_36 : decode cX11_pairs 36 = .ok (.iload_n 3, 1) := by decide +kernel
theorem dX11_pairs_37 : decode cX11_pairs 37 = .ok (.aload_n 0, 1) := by decide +kernel
theorem dX11_pairs_38 : decode cX11_pairs 38 = .ok (.invokevirtual 193, 3) := by decide +kernel
theorem dX11_pairs_41 : decode cX11_pairs 41 = .ok (.if_icmp .gt 24, 3) := by decide +kernel
theorem dX11_pairs_44 : decode cX11_pairs 44 = .ok (.aload_n 0, 1) := by decide +kernel
theorem dX11_pairs_45 : decode cX11_pairs 45 = .ok (.getfield 36, 3) := by decide +kernel
theorem dX11_pairs_48 : decode cX11_pairs 48 = .ok (.iload_n 3, 1) := by decide +kernel
theorem dX11_pairs_49 : decode cX11_pairs 49 = .ok (.iload_n 3, 1) := by decide +kernel
theorem dX11_pairs_50 : decode cX11_pairs 50 = .ok (.ifCond .ne 7, 3) := by decide +kernel
theorem dX11_pairs_53 : decode cX11_pairs 53 = .ok (.lconst 1, 1) := by decide +kernel
theorem dX11_pairs_54 : decode cX11_pairs 54 = .ok (.goto 4, 3) := by decide +kernel
theorem dX11_pairs_57 : decode cX11_pairs 57 = .ok (.lconst 0, 1) := by decide +kernel
theorem dX11_pairs_58 : decode cX11_pairs 58 = .ok (.lastore, 1) := by decide +kernel
theorem dX11_pairs_59 : decode cX11_pairs 59 = .ok (.iinc 3 1, 3) := by decide +kernel
theorem dX11_pairs_62 : decode cX11_pairs 62 = .ok (.goto (-26), 3) := by decide +kernel
theorem dX11_pairs_65 : decode cX11_pairs 65 = .ok (.iconst 0, 1) := by decide +kernel
theorem dX11_pairs_66 : decode cX11_pairs 66 = .ok (.istore_n 3, 1) := by decide +kernel
theorem dX11_pairs_67 : decode cX11_pairs 67 = .ok (.iload_n 3, 1) := by decide +kernel
theorem dX11_pairs_68 : decode cX11_pairs 68 = .ok (.aload_n 0, 1) := by decide +kernel
theorem dX11_pairs_69 : decode cX11_pairs 69 = .ok (.invokevirtual 193, 3) := by decide +kernel
theorem dX11_pairs_72 : decode cX11_pairs 72 = .ok (.if_icmp .ge 147, 3) := by decide +kernel
theorem dX11_pairs_75 : decode cX11_pairs 75 = .ok (.aload_n 0, 1) := by decide +kernel
theorem dX11_pairs_76 : decode cX11_pairs 76 = .ok (.getfield 36, 3) := by decide +kernel
theorem dX11_pairs_79 : decode cX11_pairs 79 = .ok (.iload_n 3, 1) := by decide +kernel
theorem dX11_pairs_80 : decode cX11_pairs 80 = .ok (.laload, 1) := by decide +kernel
theorem dX11_pairs_81 : decode cX11_pairs 81 = .ok (.lconst 0, 1) := by decide +kernel
theorem dX11_pairs_82 : decode cX11_pairs 82 = .ok (.lcmp, 1) := by decide +kernel
theorem dX11_pairs_83 : decode cX11_pairs 83 = .ok (.ifCond .le 11, 3) := by decide +kernel
theorem dX11_pairs_86 : decode cX11_pairs 86 = .ok (.aload_n 0, 1) := by decide +kernel
theorem dX11_pairs_87 : decode cX11_pairs 87 = .ok (.iload_n 3, 1) := by decide +kernel
theorem dX11_pairs_88 : decode cX11_pairs 88 = .ok (.invokevirtual 199, 3) := by decide +kernel
theorem dX11_pairs_91 : decode cX11_pairs 91 = .ok (.goto 4, 3) := by decide +kernel
theorem dX11_pairs_94 : decode cX11_pairs 94 = .ok (.iconst 0, 1) := by decide +kernel
theorem dX11_pairs_95 : decode cX11_pairs 95 = .ok (.istore 4, 2) := by decide +kernel
theorem dX11_pairs_97 : decode cX11_pairs 97 = .ok (.iload 4, 2) := by decide +kernel
theorem dX11_pairs_99 : decode cX11_pairs 99 = .ok (.istore 5, 2) := by decide +kernel
theorem dX11_pairs_101 : decode cX11_pairs 101 = .ok (.iload 5, 2) := by decide +kernel
theorem dX11_pairs_103 : decode cX11_pairs 103 = .ok (.ifCond .le 110, 3) := by decide +kernel
theorem dX11_pairs_106 : decode cX11_pairs 106 = .ok (.aload_n 0, 1) := by decide +kernel
theorem dX11_pairs_107 : decode cX11_pairs 107 = .ok (.getfield 32, 3) := by decide +kernel
theorem dX11_pairs_110 : decode cX11_pairs 110 = .ok (.iload_n 3, 1) := by decide +kernel
theorem dX11_pairs_111 : decode cX11_pairs 111 = .ok (.iload 5, 2) := by decide +kernel
theorem dX11_pairs_113 : decode cX11_pairs 113 = .ok (.ior, 1) := by decide +kernel
theorem dX11_pairs_114 : decode cX11_pairs 114 = .ok (.laload, 1) := by decide +kernel
theorem dX11_pairs_115 : decode cX11_pairs 115 = .ok (.lconst 0, 1) := by decide +kernel
theorem dX11_pairs_116 : decode cX11_pairs 116 = .ok (.lcmp, 1) := by decide +kernel
theorem dX11_pairs_117 : decode cX11_pairs 117 = .ok (.ifCond .le 84, 3) := by decide +kernel
theorem dX11_pairs_120 : decode cX11_pairs 120 = .ok (.aload_n 0, 1) := by decide +kernel
theorem dX11_pairs_121 : decode cX11_pairs 121 = .ok (.iload_n 3, 1) := by decide +kernel
theorem dX11_pairs_122 : decode cX11_pairs 122 = .ok (.iload 5, 2) := by decide +kernel
theorem dX11_pairs_124 : decode cX11_pairs 124 = .ok (.invokevirtual 202, 3) := by decide +kernel
theorem dX11_pairs_127 : decode cX11_pairs 127 = .ok (.ifCond .eq 74, 3) := by decide +kernel
theorem dX11_pairs_130 : decode cX11_pairs 130 = .ok (.aload_n 0, 1) := by decide +kernel
theorem dX11_pairs_131 : decode cX11_pairs 131 = .ok (.getfield 36, 3) := by decide +kernel
theorem dX11_pairs_134 : decode cX11_pairs 134 = .ok (.iload_n 3, 1) := by decide +kernel
theorem dX11_pairs_135 : decode cX11_pairs 135 = .ok (.iload 5, 2) := by decide +kernel
theorem dX11_pairs_137 : decode cX11_pairs 137 = .ok (.ior, 1) := by decide +kernel
theorem dX11_pairs_138 : decode cX11_pairs 138 = .ok (.dup2, 1) := by decide +kernel
theorem dX11_pairs_139 : decode cX11_pairs 139 = .ok (.laload, 1) := by decide +kernel
theorem dX11_pairs_140 : decode cX11_pairs 140 = .ok (.aload_n 0, 1) := by decide +kernel
theorem dX11_pairs_141 : decode cX11_pairs 141 = .ok (.getfield 36, 3) := by decide +kernel
theorem dX11_pairs_144 : decode cX11_pairs 144 = .ok (.iload_n 3, 1) := by decide +kernel
theorem dX11_pairs_145 : decode cX11_pairs 145 = .ok (.laload, 1) := by decide +kernel
theorem dX11_pairs_146 : decode cX11_pairs 146 = .ok (.ladd, 1) := by decide +kernel
theorem dX11_pairs_147 : decode cX11_pairs 147 = .ok (.lastore, 1) := by decide +kernel
theorem dX11_pairs_148 : decode cX11_pairs 148 = .ok (.iconst 0, 1) := by decide +kernel
theorem dX11_pairs_149 : decode cX11_pairs 149 = .ok (.istore 6, 2) := by decide +kernel
theorem dX11_pairs_151 : decode cX11_pairs 151 = .ok (.iload 6, 2) := by decide +kernel
theorem dX11_pairs_153 : decode cX11_pairs 153 = .ok (.iconst 2, 1) := by decide +kernel
theorem dX11_pairs_154 : decode cX11_pairs 154 = .ok (.aload_n 0, 1) := by decide +kernel
theorem dX11_pairs_155 : decode cX11_pairs 155 = .ok (.getfield 7, 3) := by decide +kernel
theorem dX11_pairs_158 : decode cX11_pairs 158 = .ok (.iconst 0, 1) := by decide +kernel
theorem dX11_pairs_159 : decode cX11_pairs 159 = .ok (.iaload, 1) := by decide +kernel
theorem dX11_pairs_160 : decode cX11_pairs 160 = .ok (.imul, 1) := by decide +kernel
theorem dX11_pairs_161 : decode cX11_pairs 161 = .ok (.if_icmp .ge 40, 3) := by decide +kernel
theorem dX11_pairs_164 : decode cX11_pairs 164 = .ok (.aload_n 0, 1) := by decide +kernel
theorem dX11_pairs_165 : decode cX11_pairs 165 = .ok (.iload 6, 2) := by decide +kernel
theorem dX11_pairs_167 : decode cX11_pairs 167 = .ok (.invokevirtual 168, 3) := by decide +kernel
theorem dX11_pairs_170 : decode cX11_pairs 170 = .ok (.ifCond .eq 25, 3) := by decide +kernel
theorem dX11_pairs_173 : decode cX11_pairs 173 = .ok (.aload_n 0, 1) := by decide +kernel
theorem dX11_pairs_174 : decode cX11_pairs 174 = .ok (.aload_n 0, 1) := by decide +kernel
theorem dX11_pairs_175 : decode cX11_pairs 175 = .ok (.getfield 36, 3) := by decide +kernel
theorem dX11_pairs_178 : decode cX11_pairs 178 = .ok (.iload_n 3, 1) := by decide +kernel
theorem dX11_pairs_179 : decode cX11_pairs 179 = .ok (.laload, 1) := by decide +kernel
theorem dX11_pairs_180 : decode cX11_pairs 180 = .ok (.aload_n 0, 1) := by decide +kernel
theorem dX11_pairs_181 : decode cX11_pairs 181 = .ok (.getfield 32, 3) := by decide +kernel
theorem dX11_pairs_184 : decode cX11_pairs 184 = .ok (.iload_n 3, 1) := by decide +kernel
theorem dX11_pairs_185 : decode cX11_pairs 185 = .ok (.iload 5, 2) := by decide +kernel
theorem dX11_pairs_187 : decode cX11_pairs 187 = .ok (.ior, 1) := by decide +kernel
theorem dX11_pairs_188 : decode cX11_pairs 188 = .ok (.laload, 1) := by decide +kernel
theorem dX11_pairs_189 : decode cX11_pairs 189 = .ok (.lmul, 1) := by decide +kernel
theorem dX11_pairs_190 : decode cX11_pairs 190 = .ok (.iload 6, 2) := by decide +kernel
theorem dX11_pairs_192 : decode cX11_pairs 192 = .ok (.invokevirtual 229, 3) := by decide +kernel
theorem dX11_pairs_195 : decode cX11_pairs 195 = .ok (.iinc 6 1, 3) := by decide +kernel
theorem dX11_pairs_198 : decode cX11_pairs 198 = .ok (.goto (-47), 3) := by decide +kernel
theorem dX11_pairs_201 : decode cX11_pairs 201 = .ok (.iload 5, 2) := by decide +kernel
theorem dX11_pairs_203 : decode cX11_pairs 203 = .ok (.iconst 1, 1) := by decide +kernel
theorem dX11_pairs_204 : decode cX11_pairs 204 = .ok (.isub, 1) := by decide +kernel
theorem dX11_pairs_205 : decode cX11_pairs 205 = .ok (.iload 4, 2) := by decide +kernel
theorem dX11_pairs_207 : decode cX11_pairs 207 = .ok (.iand, 1) := by decide +kernel
theorem dX11_pairs_208 : decode cX11_pairs 208 = .ok (.istore 5, 2) := by decide +kernel
theorem dX11_pairs_210 : decode cX11_pairs 210 = .ok (.goto (-109), 3) := by decide +kernel
theorem dX11_pairs_213 : decode cX11_pairs 213 = .ok (.iinc 3 1, 3) := by decide +kernel
theorem dX11_pairs_216 : decode cX11_pairs 216 = .ok (.goto (-149), 3) := by decide +kernel
theorem dX11_pairs_219 : decode cX11_pairs 219 = .ok (.lload_n 1, 1) := by decide +kernel
theorem dX11_pairs_220 : decode cX11_pairs 220 = .ok (.lreturn, 1) := by decide +kernel
theorem dX11_bits_0 : decode cX11_bits 0 = .ok (.aload_n 0, 1) := by decide +kernel
theorem dX11_bits_1 : decode cX11_bits 1 = .ok (.getfield 45, 3) := by decide +kernel
theorem dX11_bits_4 : decode cX11_bits 4 = .ok (.bipush 12, 2) := by decide +kernel
theorem dX11_bits_6 : decode cX11_bits 6 = .ok (.iload_n 1, 1) := by decide +kernel
theorem dX11_bits_7 : decode cX11_bits 7 = .ok (.imul, 1) := by decide +kernel
theorem dX11_bits_8 : decode cX11_bits 8 = .ok (.iload_n 2, 1) := by decide +kernel
theorem dX11_bits_9 : decode cX11_bits 9 = .ok (.iadd, 1) := by decide +kernel
theorem dX11_bits_10 : decode cX11_bits 10 = .ok (.laload, 1) := by decide +kernel
theorem dX11_bits_11 : decode cX11_bits 11 = .ok (.lconst 0, 1) := by decide +kernel
theorem dX11_bits_12 : decode cX11_bits 12 = .ok (.lcmp, 1) := by decide +kernel
theorem dX11_bits_13 : decode cX11_bits 13 = .ok (.ifCond .le 7, 3) := by decide +kernel
theorem dX11_bits_16 : decode cX11_bits 16 = .ok (.iconst 1, 1) := by decide +kernel
theorem dX11_bits_17 : decode cX11_bits 17 = .ok (.goto 4, 3) := by decide +kernel
theorem dX11_bits_20 : decode cX11_bits 20 = .ok (.iconst 0, 1) := by decide +kernel
theorem dX11_bits_21 : decode cX11_bits 21 = .ok (.aload_n 0, 1) := by decide +kernel
theorem dX11_bits_22 : decode cX11_bits 22 = .ok (.getfield 48, 3) := by decide +kernel
theorem dX11_bits_25 : decode cX11_bits 25 = .ok (.bipush 12, 2) := by decide +kernel
theorem dX11_bits_27 : decode cX11_bits 27 = .ok (.iload_n 1, 1) := by decide +kernel
theorem dX11_bits_28 : decode cX11_bits 28 = .ok (.imul, 1) := by decide +kernel
theorem dX11_bits_29 : decode cX11_bits 29 = .ok (.iload_n 2, 1) := by decide +kernel
theorem dX11_bits_30 : decode cX11_bits 30 = .ok (.iadd, 1) := by decide +kernel
theorem dX11_bits_31 : decode cX11_bits 31 = .ok (.laload, 1) := by decide +kernel
theorem dX11_bits_32 : decode cX11_bits 32 = .ok (.lconst 0, 1) := by decide +kernel
theorem dX11_bits_33 : decode cX11_bits 33 = .ok (.lcmp, 1) := by decide +kernel
theorem dX11_bits_34 : decode cX11_bits 34 = .ok (.ifCond .le 7, 3) := by decide +kernel
theorem dX11_bits_37 : decode cX11_bits 37 = .ok (.iconst 2, 1) := by decide +kernel
theorem dX11_bits_38 : decode cX11_bits 38 = .ok (.goto 4, 3) := by decide +kernel
theorem dX11_bits_41 : decode cX11_bits 41 = .ok (.iconst 0, 1) := by decide +kernel
theorem dX11_bits_42 : decode cX11_bits 42 = .ok (.ior, 1) := by decide +kernel
theorem dX11_bits_43 : decode cX11_bits 43 = .ok (.aload_n 0, 1) := by decide +kernel
theorem dX11_bits_44 : decode cX11_bits 44 = .ok (.getfield 45, 3) := by decide +kernel
theorem dX11_bits_47 : decode cX11_bits 47 = .ok (.bipush 12, 2) := by decide +kernel
theorem dX11_bits_49 : decode cX11_bits 49 = .ok (.iload_n 2, 1) := by decide +kernel
theorem dX11_bits_50 : decode cX11_bits 50 = .ok (.imul, 1) := by decide +kernel
theorem dX11_bits_51 : decode cX11_bits 51 = .ok (.iload_n 1, 1) := by decide +kernel
theorem dX11_bits_52 : decode cX11_bits 52 = .ok (.iadd, 1) := by decide +kernel
theorem dX11_bits_53 : decode cX11_bits 53 = .ok (.laload, 1) := by decide +kernel
theorem dX11_bits_54 : decode cX11_bits 54 = .ok (.lconst 0, 1) := by decide +kernel
theorem dX11_bits_55 : decode cX11_bits 55 = .ok (.lcmp, 1) := by decide +kernel
theorem dX11_bits_56 : decode cX11_bits 56 = .ok (.ifCond .le 7, 3) := by decide +kernel
theorem dX11_bits_59 : decode cX11_bits 59 = .ok (.iconst 4, 1) := by decide +kernel
theorem dX11_bits_60 : decode cX11_bits 60 = .ok (.goto 4, 3) := by decide +kernel
theorem dX11_bits_63 : decode cX11_bits 63 = .ok (.iconst 0, 1) := by decide +kernel
theorem dX11_bits_64 : decode cX11_bits 64 = .ok (.ior, 1) := by decide +kernel
theorem dX11_bits_65 : decode cX11_bits 65 = .ok (.ireturn, 1) := by decide +kernel
set_option maxRecDepth 20000 in
theorem ggX11_isSure_X11_bits : GoodIn wsX11_isSure wsX11_bits := goodIn_r _ [5, 6, 7, 8, 9, 10, 11, 12, 13, 14, 15, 16, 17, 18, 19, 20, 21, 22, 23, 24, 25, 26, 27, 28, 29, 30, 31, 32, 33, 34, 35] (by decide +kernel) (by decide +kernel)
set_option maxRecDepth 20000 in
theorem gX11_isSure_X11_bits : GoodIn wsX11_isSure (wsV RX11 233 RX11 yX11_bits wsX11_bits) := goodIn_app (goodIn_of _ (by decide +kernel)) ggX11_isSure_X11_bits
theorem dX11_isSure_0 : decode cX11_isSure 0 = .ok (.aload_n 0, 1) := by decide +kernel
theorem dX11_isSure_1 : decode cX11_isSure 1 = .ok (.iload_n 1, 1) := by decide +kernel
theorem dX11_isSure_2 : decode cX11_isSure 2 = .ok (.iload_n 2, 1) := by decide +kernel
theorem dX11_isSure_3 : decode cX11_isSure 3 = .ok (.invokevirtual 233, 3) := by decide +kernel
theorem dX11_isSure_6 : decode cX11_isSure 6 = .ok (.istore_n 3, 1) := by decide +kernel
theorem dX11_isSure_7 : decode cX11_isSure 7 = .ok (.iload_n 3, 1) := by decide +kernel
theorem dX11_isSure_8 : decode cX11_isSure 8 = .ok (.iconst 1, 1) := by decide +kernel
theorem dX11_isSure_9 : decode cX11_isSure 9 = .ok (.if_icmp .eq 13, 3) := by decide +kernel
theorem dX11_isSure_12 : decode cX11_isSure 12 = .ok (.iload_n 3, 1) := by decide +kernel
theorem dX11_isSure_13 : decode cX11_isSure 13 = .ok (.iconst 2, 1) := by decide +kernel
theorem dX11_isSure_14 : decode cX11_isSure 14 = .ok (.if_icmp .eq 8, 3) := by decide +kernel
theorem dX11_isSure_17 : decode cX11_isSure 17 = .ok (.iload_n 3, 1) := by decide +kernel
theorem dX11_isSure_18 : decode cX11_isSure 18 = .ok (.iconst 4, 1) := by decide +kernel
theorem dX11_isSure_19 : decode cX11_isSure 19 = .ok (.if_icmp .ne 7, 3) := by decide +kernel
theorem dX11_isSure_22 : decode cX11_isSure 22 = .ok (.iconst 1, 1) := by decide +kernel
theorem dX11_isSure_23 : decode cX11_isSure 23 = .ok (.goto 4, 3) := by decide +kernel
theorem dX11_isSure_26 : decode cX11_isSure 26 = .ok (.iconst 0, 1) := by decide +kernel
theorem dX11_isSure_27 : decode cX11_isSure 27 = .ok (.ireturn, 1) := by decide +kernel
set_option maxRecDepth 20000 in
theorem ggX11_between_X11_isEnd : GoodIn wsX11_between wsX11_isEnd := goodIn_r _ [5, 6, 7, 8, 4, 9, 93, 94, 95, 96, 97, 98, 99, 100, 101, 102, 103, 104, 105, 106, 107, 108, 109, 110, 111, 112, 113, 114, 115, 116, 117, 118, 119, 120] (by decide +kernel) (by decide +kernel)
set_option maxRecDepth 20000 in
theorem gX11_between_X11_isEnd : GoodIn wsX11_between (wsV RX11 217 RX11 yX11_isEnd wsX11_isEnd) := goodIn_app (goodIn_of _ (by decide +kernel)) ggX11_between_X11_isEnd
set_option maxRecDepth 20000 in
theorem ggX11_between_X11_bad : GoodIn wsX11_between wsX11_bad := goodIn_r _ [13, 14, 15, 16, 4, 17, 18, 93, 94, 95, 96, 97, 98, 99, 100, 101, 102, 103, 104, 105, 106, 107, 108, 109, 110, 111, 112, 113, 114, 115, 116, 117, 118, 119, 120] (by decide +kernel) (by decide +kernel)
set_option maxRecDepth 20000 in
theorem gX11_between_X11_bad : GoodIn wsX11_between (wsV RX11 78 RX11 yX11_bad wsX11_bad) := goodIn_app (goodIn_of _ (by decide +kernel)) ggX11_between_X11_bad
set_option maxRecDepth 20000 in
theorem ggX11_between_X11_pairs : GoodIn wsX11_between wsX11_pairs := goodIn_r _ [22, 23, 24, 25, 26, 6, 27, 28, 29, 4, 30, 31, 32, 33, 34, 35, 36, 37, 38, 39, 40, 41, 42, 43, 44, 45, 46, 47, 48, 49, 50, 51, 52, 53, 54, 55, 56, 57, 58, 59, 60, 61, 62, 63, 64, 65, 66, 67, 68, 69, 70, 71, 72, 73, 74, 75, 76, 77, 78, 79, 80, 81, 82, 83, 84, 85, 86, 87, 88, 93, 94, 95, 96, 97, 98, 99, 100, 101, 102, 103, 104, 105, 106, 107, 108, 109, 110, 111, 112, 113, 114, 115, 116, 117, 118, 119, 120] (by decide +kernel) (by decide +kernel)
set_option maxRecDepth 20000 in
theorem gX11_between_X11_pairs : GoodIn wsX11_between (wsV RX11 236 RX11 yX11_pairs wsX11_pairs) := goodIn_app (goodIn_of _ (by decide +kernel)) ggX11_between_X11_pairs
set_option maxRecDepth 20000 in
theorem ggX11_between_X11_refuses : GoodIn wsX11_between wsX11_refuses := goodIn_r _ [17, 18, 93, 94, 95, 96, 97, 98, 99, 100, 101, 102, 103, 104, 105, 106, 107, 108, 109, 110, 111, 112, 113, 114, 115, 116, 117, 118, 119, 120] (by decide +kernel) (by decide +kernel)
set_option maxRecDepth 20000 in
theorem gX11_between_X11_refuses : GoodIn wsX11_between (wsV RX11 66 RX11 yX11_refuses wsX11_refuses) := goodIn_app (goodIn_of _ (by decide +kernel)) ggX11_between_X11_refuses
set_option maxRecDepth 20000 in
theorem ggX11_between_X11_bits : GoodIn wsX11_between wsX11_bits := goodIn_r _ [92, 23, 24, 93, 94, 95, 96, 97, 98, 99, 100, 101, 102, 103, 104, 105, 106, 107, 108, 109, 110, 111, 112, 113, 114, 115, 116, 117, 118, 119, 120] (by decide +kernel) (by decide +kernel)
set_option maxRecDepth 20000 in
theorem gX11_between_X11_bits : GoodIn wsX11_between (wsV RX11 233 RX11 yX11_bits wsX11_bits) := goodIn_app (goodIn_of _ (by decide +kernel)) ggX11_between_X11_bits
theorem dX11_between_0 : decode cX11_between 0 = .ok (.aload_n 0, 1) := by decide +kernel
theorem dX11_between_1 : decode cX11_between 1 = .ok (.iload_n 1, 1) := by decide +kernel
theorem dX11_between_2 : decode cX11_between 2 = .ok (.invokevirtual 217, 3) := by decide +kernel
theorem dX11_between_5 : decode cX11_between 5 = .ok (.ifCond .eq 16, 3) := by decide +kernel
theorem dX11_between_8 : decode cX11_between 8 = .ok (.aload_n 0, 1) := by decide +kernel
theorem dX11_between_9 : decode cX11_between 9 = .ok (.iload_n 2, 1) := by decide +kernel
theorem dX11_between_10 : decode cX11_between 10 = .ok (.invokevirtual 217, 3) := by decide +kernel
theorem dX11_between_13 : decode cX11_between 13 = .ok (.ifCond .eq 8, 3) := by decide +kernel
theorem dX11_between_16 : decode cX11_between 16 = .ok (.iload_n 1, 1) := by decide +kernel
theorem dX11_between_17 : decode cX11_between 17 = .ok (.iload_n 2, 1) := by decide +kernel
theorem dX11_between_18 : decode cX11_between 18 = .ok (.if_icmp .ne 8, 3) := by decide +kernel
theorem dX11_between_21 : decode cX11_between 21 = .ok (.aload_n 0, 1) := by decide +kernel
theorem dX11_between_22 : decode cX11_between 22 = .ok (.invokevirtual 78, 3) := by decide +kernel
theorem dX11_between_25 : decode cX11_between 25 = .ok (.ireturn, 1) := by decide +kernel
theorem dX11_between_26 : decode cX11_between 26 = .ok (.aload_n 0, 1) := by decide +kernel
theorem dX11_between_27 : decode cX11_between 27 = .ok (.invokevirtual 236, 3) := by decide +kernel
theorem dX11_between_30 : decode cX11_between 30 = .ok (.lconst 0, 1) := by decide +kernel
theorem dX11_between_31 : decode cX11_between 31 = .ok (.lcmp, 1) := by decide +kernel
theorem dX11_between_32 : decode cX11_between 32 = .ok (.ifCond .ne 13, 3) := by decide +kernel
theorem dX11_between_35 : decode cX11_between 35 = .ok (.aload_n 0, 1) := by decide +kernel
theorem dX11_between_36 : decode cX11_between 36 = .ok (.iconst 1, 1) := by decide +kernel
theorem dX11_between_37 : decode cX11_between 37 = .ok (.bipush (-3), 2) := by decide +kernel
theorem dX11_between_39 : decode cX11_between 39 = .ok (.invokevirtual 66, 3) := by decide +kernel
theorem dX11_between_42 : decode cX11_between 42 = .ok (.goto 9, 3) := by decide +kernel
theorem dX11_between_45 : decode cX11_between 45 = .ok (.aload_n 0, 1) := by decide +kernel
theorem dX11_between_46 : decode cX11_between 46 = .ok (.iload_n 1, 1) := by decide +kernel
theorem dX11_between_47 : decode cX11_between 47 = .ok (.iload_n 2, 1) := by decide +kernel
theorem dX11_between_48 : decode cX11_between 48 = .ok (.invokevirtual 233, 3) := by decide +kernel
theorem dX11_between_51 : decode cX11_between 51 = .ok (.ireturn, 1) := by decide +kernel
set_option maxRecDepth 20000 in
theorem ggX11_sure_X11_pairs : GoodIn wsX11_sure wsX11_pairs := goodIn_r _ [6, 7, 8, 9, 10, 1, 11, 12, 13, 5, 14, 15, 16, 17, 18, 19, 20, 21, 22, 23, 24, 25, 26, 27, 28, 29, 30, 31, 32, 33, 34, 35, 36, 37, 38, 39, 40, 41, 42, 43, 44, 45, 46, 47, 48, 49, 50, 51, 52, 53, 54, 55, 56, 57, 58, 59, 60, 61, 62, 63, 64, 65, 66, 67, 68, 69, 70, 71, 72, 86, 87, 88, 89, 90, 91, 92, 93, 94, 95, 96, 97, 98, 99, 100, 101, 102, 103, 104, 105, 106, 107, 108, 109, 110, 111, 112, 113] (by decide +kernel) (by decide +kernel)
set_option maxRecDepth 20000 in
theorem gX11_sure_X11_pairs : GoodIn wsX11_sure (wsV RX11 236 RX11 yX11_pairs wsX11_pairs) := goodIn_app (goodIn_of _ (by decide +kernel)) ggX11_sure_X11_pairs
set_option maxRecDepth 20000 in
theorem ggX11_sure_X11_refuses : GoodIn wsX11_sure wsX11_refuses := goodIn_r _ [76, 77, 86, 87, 88, 89, 90, 91, 92, 93, 94, 95, 96, 97, 98, 99, 100, 101, 102, 103, 104, 105, 106, 107, 108, 109, 110, 111, 112, 113] (by decide +kernel) (by decide +kernel)
set_option maxRecDepth 20000 in
theorem gX11_sure_X11_refuses : GoodIn wsX11_sure (wsV RX11 66 RX11 yX11_refuses wsX11_refuses) := goodIn_app (goodIn_of _ (by decide +kernel)) ggX11_sure_X11_refuses
set_option maxRecDepth 20000 in
theorem ggX11_sure_X11_isSure : GoodIn wsX11_sure wsX11_isSure := goodIn_r _ [81, 82, 83, 84, 5, 85, 7, 8, 86, 87, 88, 89, 90, 91, 92, 93, 94, 95, 96, 97, 98, 99, 100, 101, 102, 103, 104, 105, 106, 107, 108, 109, 110, 111, 112, 113] (by decide +kernel) (by decide +kernel)
set_option maxRecDepth 20000 in
theorem gX11_sure_X11_isSure : GoodIn wsX11_sure (wsV RX11 239 RX11 yX11_isSure wsX11_isSure) := goodIn_app (goodIn_of _ (by decide +kernel)) ggX11_sure_X11_isSure
theorem dX11_sure_0 : decode cX11_sure 0 = .ok (.aload_n 0, 1) := by decide +kernel
theorem dX11_sure_1 : decode cX11_sure 1 = .ok (.invokevirtual 236, 3) := by decide +kernel
theorem dX11_sure_4 : decode cX11_sure 4 = .ok (.lconst 0, 1) := by decide +kernel
theorem dX11_sure_5 : decode cX11_sure 5 = .ok (.lcmp, 1) := by decide +kernel
theorem dX11_sure_6 : decode cX11_sure 6 = .ok (.ifCond .ne 11, 3) := by decide +kernel
theorem dX11_sure_9 : decode cX11_sure 9 = .ok (.aload_n 0, 1) := by decide +kernel
theorem dX11_sure_10 : decode cX11_sure 10 = .ok (.iconst 1, 1) := by decide +kernel
theorem dX11_sure_11 : decode cX11_sure 11 = .ok (.bipush (-3), 2) := by decide +kernel
theorem dX11_sure_13 : decode cX11_sure 13 = .ok (.invokevirtual 66, 3) := by decide +kernel
theorem dX11_sure_16 : decode cX11_sure 16 = .ok (.ireturn, 1) := by decide +kernel
theorem dX11_sure_17 : decode cX11_sure 17 = .ok (.iconst 0, 1) := by decide +kernel
theorem dX11_sure_18 : decode cX11_sure 18 = .ok (.istore_n 1, 1) := by decide +kernel
theorem dX11_sure_19 : decode cX11_sure 19 = .ok (.iconst 0, 1) := by decide +kernel
theorem dX11_sure_20 : decode cX11_sure 20 = .ok (.istore_n 2, 1) := by decide +kernel
theorem dX11_sure_21 : decode cX11_sure 21 = .ok (.iload_n 2, 1) := by decide +kernel
theorem dX11_sure_22 : decode cX11_sure 22 = .ok (.iconst 2, 1) := by decide +kernel
theorem dX11_sure_23 : decode cX11_sure 23 = .ok (.aload_n 0, 1) := by decide +kernel
theorem dX11_sure_24 : decode cX11_sure 24 = .ok (.getfield 7, 3) := by decide +kernel
theorem dX11_sure_27 : decode cX11_sure 27 = .ok (.iconst 0, 1) := by decide +kernel
theorem dX11_sure_28 : decode cX11_sure 28 = .ok (.iaload, 1) := by decide +kernel
theorem dX11_sure_29 : decode cX11_sure 29 = .ok (.imul, 1) := by decide +kernel
theorem dX11_sure_30 : decode cX11_sure 30 = .ok (.if_icmp .ge 48, 3) := by decide +kernel
theorem dX11_sure_33 : decode cX11_sure 33 = .ok (.iload_n 2, 1) := by decide +kernel
theorem dX11_sure_34 : decode cX11_sure 34 = .ok (.iconst 1, 1) := by decide +kernel
theorem dX11_sure_35 : decode cX11_sure 35 = .ok (.iadd, 1) := by decide +kernel
theorem dX11_sure_36 : decode cX11_sure 36 = .ok (.istore_n 3, 1) := by decide +kernel
theorem dX11_sure_37 : decode cX11_sure 37 = .ok (.iload_n 3, 1) := by decide +kernel
theorem dX11_sure_38 : decode cX11_sure 38 = .ok (.iconst 2, 1) := by decide +kernel
theorem dX11_sure_39 : decode cX11_sure 39 = .ok (.aload_n 0, 1) := by decide +kernel
theorem dX11_sure_40 : decode cX11_sure 40 = .ok (.getfield 7, 3) := by decide +kernel
theorem dX11_sure_43 : decode cX11_sure 43 = .ok (.iconst 0, 1) := by decide +kernel
theorem dX11_sure_44 : decode cX11_sure 44 = .ok (.iaload, 1) := by decide +kernel
theorem dX11_sure_45 : decode cX11_sure 45 = .ok (.imul, 1) := by decide +kernel
theorem dX11_sure_46 : decode cX11_sure 46 = .ok (.if_icmp .ge 26, 3) := by decide +kernel
theorem dX11_sure_49 : decode cX11_sure 49 = .ok (.iload_n 1, 1) := by decide +kernel
theorem dX11_sure_50 : decode cX11_sure 50 = .ok (.aload_n 0, 1) := by decide +kernel
theorem dX11_sure_51 : decode cX11_sure 51 = .ok (.iload_n 2, 1) := by decide +kernel
theorem dX11_sure_52 : decode cX11_sure 52 = .ok (.iload_n 3, 1) := by decide +kernel
theorem dX11_sure_53 : decode cX11_sure 53 = .ok (.invokevirtual 239, 3) := by decide +kernel
theorem dX11_sure_56 : decode cX11_sure 56 = .ok (.ifCond .eq 7, 3) := by decide +kernel
theorem dX11_sure_59 : decode cX11_sure 59 = .ok (.iconst 1, 1) := by decide +kernel
theorem dX11_sure_60 : decode cX11_sure 60 = .ok (.goto 4, 3) := by decide +kernel
theorem dX11_sure_63 : decode cX11_sure 63 = .ok (.iconst 0, 1) := by decide +kernel
theorem dX11_sure_64 : decode cX11_sure 64 = .ok (.iadd, 1) := by decide +kernel
theorem dX11_sure_65 : decode cX11_sure 65 = .ok (.istore_n 1, 1) := by decide +kernel
theorem dX11_sure_66 : decode cX11_sure 66 = .ok (.iinc 3 1, 3) := by decide +kernel
theorem dX11_sure_69 : decode cX11_sure 69 = .ok (.goto (-32), 3) := by decide +kernel
theorem dX11_sure_72 : decode cX11_sure 72 = .ok (.iinc 2 1, 3) := by decide +kernel
theorem dX11_sure_75 : decode cX11_sure 75 = .ok (.goto (-54), 3) := by decide +kernel
theorem dX11_sure_78 : decode cX11_sure 78 = .ok (.iload_n 1, 1) := by decide +kernel
theorem dX11_sure_79 : decode cX11_sure 79 = .ok (.ireturn, 1) := by decide +kernel
set_option maxRecDepth 20000 in
theorem ggX11_together_X11_isThing : GoodIn wsX11_together wsX11_isThing := goodIn_r _ [7, 8, 9, 10, 6, 11, 78, 79, 80, 81, 82, 83, 84, 85, 86, 87, 88, 89, 90, 91, 92, 93, 94, 95, 96, 97, 98, 99, 100, 101, 102, 103, 104, 105] (by decide +kernel) (by decide +kernel)
set_option maxRecDepth 20000 in
theorem gX11_together_X11_isThing : GoodIn wsX11_together (wsV RX11 74 RX11 yX11_isThing wsX11_isThing) := goodIn_app (goodIn_of _ (by decide +kernel)) ggX11_together_X11_isThing
set_option maxRecDepth 20000 in
theorem ggX11_together_X11_bad : GoodIn wsX11_together wsX11_bad := goodIn_r _ [15, 16, 17, 18, 6, 19, 20, 78, 79, 80, 81, 82, 83, 84, 85, 86, 87, 88, 89, 90, 91, 92, 93, 94, 95, 96, 97, 98, 99, 100, 101, 102, 103, 104, 105] (by decide +kernel) (by decide +kernel)
set_option maxRecDepth 20000 in
theorem gX11_together_X11_bad : GoodIn wsX11_together (wsV RX11 78 RX11 yX11_bad wsX11_bad) := goodIn_app (goodIn_of _ (by decide +kernel)) ggX11_together_X11_bad
set_option maxRecDepth 20000 in
theorem ggX11_together_X11_all : GoodIn wsX11_together wsX11_all := goodIn_r _ [24, 25, 26, 27, 6, 28, 29, 1, 30, 31, 32, 33, 34, 35, 36, 37, 38, 39, 8, 40, 41, 42, 43, 44, 45, 46, 47, 48, 49, 50, 51, 52, 53, 54, 55, 56, 57, 2, 58, 59, 60, 61, 62, 63, 64, 65, 66, 67, 68, 69, 70, 71, 72, 73, 74, 75, 76, 77, 78, 79, 80, 81, 82, 83, 84, 85, 86, 87, 88, 89, 90, 91, 92, 93, 94, 95, 96, 97, 98, 99, 100, 101, 102, 103, 104, 105] (by decide +kernel) (by decide +kernel)
set_option maxRecDepth 20000 in
theorem gX11_together_X11_all : GoodIn wsX11_together (wsV RX11 211 RX11 yX11_all wsX11_all) := goodIn_app (goodIn_of _ (by decide +kernel)) ggX11_together_X11_all
set_option maxRecDepth 20000 in
theorem ggX11_together_X11_counts : GoodIn wsX11_together wsX11_counts := goodIn_r _ [34, 35, 36, 37, 38, 6, 39, 8, 40, 41, 42, 43, 44, 45, 46, 47, 48, 49, 50, 51, 52, 53, 54, 55, 56, 57, 1, 2, 29, 30, 58, 59, 60, 61, 62, 63, 64, 65, 66, 67, 68, 69, 70, 71, 72, 73, 74, 75, 76, 77, 78, 79, 80, 81, 82, 83, 84, 85, 86, 87, 88, 89, 90, 91, 92, 93, 94, 95, 96, 97, 98, 99, 100, 101, 102, 103, 104, 105] (by decide +kernel) (by decide +kernel)
set_option maxRecDepth 20000 in
theorem gX11_together_X11_counts : GoodIn wsX11_together (wsV RX11 208 RX11 yX11_counts wsX11_counts) := goodIn_app (goodIn_of _ (by decide +kernel)) ggX11_together_X11_counts
theorem dX11_together_0 : decode cX11_together 0 = .ok (.aload_n 0, 1) := by decide +kernel
theorem dX11_together_1 : decode cX11_together 1 = .ok (.iload_n 1, 1) := by decide +kernel
theorem dX11_together_2 : decode cX11_together 2 = .ok (.invokevirtual 74, 3) := by decide +kernel
theorem dX11_together_5 : decode cX11_together 5 = .ok (.ifCond .eq 16, 3) := by decide +kernel
theorem dX11_together_8 : decode cX11_together 8 = .ok (.aload_n 0, 1) := by decide +kernel
theorem dX11_together_9 : decode cX11_together 9 = .ok (.iload_n 2, 1) := by decide +kernel
theorem dX11_together_10 : decode cX11_together 10 = .ok (.invokevirtual 74, 3) := by decide +kernel
theorem dX11_together_13 : decode cX11_together 13 = .ok (.ifCond .eq 8, 3) := by decide +kernel
theorem dX11_together_16 : decode cX11_together 16 = .ok (.iload_n 1, 1) := by decide +kernel
theorem dX11_together_17 : decode cX11_together 17 = .ok (.iload_n 2, 1) := by decide +kernel
theorem dX11_together_18 : decode cX11_together 18 = .ok (.if_icmp .ne 9, 3) := by decide +kernel
theorem dX11_together_21 : decode cX11_together 21 = .ok (.aload_n 0, 1) := by decide +kernel
theorem dX11_together_22 : decode cX11_together 22 = .ok (.invokevirtual 78, 3) := by decide +kernel
theorem dX11_together_25 : decode cX11_together 25 = .ok (.i2l, 1) := by decide +kernel
theorem dX11_together_26 : decode cX11_together 26 = .ok (.lreturn, 1) := by decide +kernel
theorem dX11_together_27 : decode cX11_together 27 = .ok (.aload_n 0, 1) := by decide +kernel
theorem dX11_together_28 : decode cX11_together 28 = .ok (.invokevirtual 211, 3) := by decide +kernel
theorem dX11_together_31 : decode cX11_together 31 = .ok (.lstore_n 3, 1) := by decide +kernel
theorem dX11_together_32 : decode cX11_together 32 = .ok (.aload_n 0, 1) := by decide +kernel
theorem dX11_together_33 : decode cX11_together 33 = .ok (.iload_n 1, 1) := by decide +kernel
theorem dX11_together_34 : decode cX11_together 34 = .ok (.putfield 178, 3) := by decide +kernel
theorem dX11_together_37 : decode cX11_together 37 = .ok (.aload_n 0, 1) := by decide +kernel
theorem dX11_together_38 : decode cX11_together 38 = .ok (.iload_n 2, 1) := by decide +kernel
theorem dX11_together_39 : decode cX11_together 39 = .ok (.putfield 181, 3) := by decide +kernel
theorem dX11_together_42 : decode cX11_together 42 = .ok (.lload_n 3, 1) := by decide +kernel
theorem dX11_together_43 : decode cX11_together 43 = .ok (.aload_n 0, 1) := by decide +kernel
theorem dX11_together_44 : decode cX11_together 44 = .ok (.invokevirtual 208, 3) := by decide +kernel
theorem dX11_together_47 : decode cX11_together 47 = .ok (.lsub, 1) := by decide +kernel
theorem dX11_together_48 : decode cX11_together 48 = .ok (.lreturn, 1) := by decide +kernel
theorem dX11_greater_0 : decode cX11_greater 0 = .ok (.lload_n 0, 1) := by decide +kernel
theorem dX11_greater_1 : decode cX11_greater 1 = .ok (.lload_n 2, 1) := by decide +kernel
theorem dX11_greater_2 : decode cX11_greater 2 = .ok (.lcmp, 1) := by decide +kernel
theorem dX11_greater_3 : decode cX11_greater 3 = .ok (.ifCond .le 7, 3) := by decide +kernel
theorem dX11_greater_6 : decode cX11_greater 6 = .ok (.lload_n 0, 1) := by decide +kernel
theorem dX11_greater_7 : decode cX11_greater 7 = .ok (.goto 4, 3) := by decide +kernel
theorem dX11_greater_10 : decode cX11_greater 10 = .ok (.lload_n 2, 1) := by decide +kernel
theorem dX11_greater_11 : decode cX11_greater 11 = .ok (.lreturn, 1) := by decide +kernel
set_option maxRecDepth 20000 in
theorem ggX11_ask_X11_in : GoodIn wsX11_ask wsX11_in := goodIn_r _ [9] (by decide +kernel) (by decide +kernel)
set_option maxRecDepth 20000 in
theorem gX11_ask_X11_in : GoodIn wsX11_ask (va_wsS RX11 70 yX11_in wsX11_in) := goodIn_app (goodIn_of _ (by decide +kernel)) ggX11_ask_X11_in
set_option maxRecDepth 20000 in
theorem ggX11_ask_X11_bad : GoodIn wsX11_ask wsX11_bad := goodIn_r _ [13, 14, 15, 16, 8, 17, 18, 98, 99, 100, 101, 102, 103, 104, 105, 106, 107, 108, 109, 110, 111, 112, 113, 114, 115, 116, 117, 118, 119, 120, 121, 122, 123, 124, 125] (by decide +kernel) (by decide +kernel)
set_option maxRecDepth 20000 in
theorem gX11_ask_X11_bad : GoodIn wsX11_ask (wsV RX11 78 RX11 yX11_bad wsX11_bad) := goodIn_app (goodIn_of _ (by decide +kernel)) ggX11_ask_X11_bad
set_option maxRecDepth 20000 in
theorem ggX11_ask_X11_pairs : GoodIn wsX11_ask wsX11_pairs := goodIn_r _ [22, 4, 3, 23, 24, 2, 25, 26, 27, 8, 28, 29, 30, 31, 32, 33, 34, 35, 36, 37, 38, 39, 40, 41, 42, 43, 44, 45, 46, 47, 48, 49, 50, 51, 52, 53, 54, 55, 56, 57, 58, 59, 60, 61, 62, 63, 64, 65, 66, 67, 68, 69, 70, 71, 72, 73, 74, 75, 76, 77, 78, 79, 80, 81, 82, 83, 84, 85, 86, 98, 99, 100, 101, 102, 103, 104, 105, 106, 107, 108, 109, 110, 111, 112, 113, 114, 115, 116, 117, 118, 119, 120, 121, 122, 123, 124, 125] (by decide +kernel) (by decide +kernel)
set_option maxRecDepth 20000 in
theorem gX11_ask_X11_pairs : GoodIn wsX11_ask (wsV RX11 236 RX11 yX11_pairs wsX11_pairs) := goodIn_app (goodIn_of _ (by decide +kernel)) ggX11_ask_X11_pairs
set_option maxRecDepth 20000 in
theorem ggX11_ask_X11_refuses : GoodIn wsX11_ask wsX11_refuses := goodIn_r _ [17, 18, 98, 99, 100, 101, 102, 103, 104, 105, 106, 107, 108, 109, 110, 111, 112, 113, 114, 115, 116, 117, 118, 119, 120, 121, 122, 123, 124, 125] (by decide +kernel) (by decide +kernel)
set_option maxRecDepth 20000 in
theorem gX11_ask_X11_refuses : GoodIn wsX11_ask (wsV RX11 66 RX11 yX11_refuses wsX11_refuses) := goodIn_app (goodIn_of _ (by decide +kernel)) ggX11_ask_X11_refuses
set_option maxRecDepth 20000 in
theorem ggX11_ask_X11_greater : GoodIn wsX11_ask wsX11_greater := goodIn_r _ [89] (by decide +kernel) (by decide +kernel)
set_option maxRecDepth 20000 in
theorem gX11_ask_X11_greater : GoodIn wsX11_ask (va_wsS RX11 244 yX11_greater wsX11_greater) := goodIn_app (goodIn_of _ (by decide +kernel)) ggX11_ask_X11_greater
set_option maxRecDepth 20000 in
theorem ggX11_ask_X11_isSure : GoodIn wsX11_ask wsX11_isSure := goodIn_r _ [93, 94, 95, 96, 8, 97, 4, 3, 98, 99, 100, 101, 102, 103, 104, 105, 106, 107, 108, 109, 110, 111, 112, 113, 114, 115, 116, 117, 118, 119, 120, 121, 122, 123, 124, 125] (by decide +kernel) (by decide +kernel)
set_option maxRecDepth 20000 in
theorem gX11_ask_X11_isSure : GoodIn wsX11_ask (wsV RX11 239 RX11 yX11_isSure wsX11_isSure) := goodIn_app (goodIn_of _ (by decide +kernel)) ggX11_ask_X11_isSure
theorem dX11_ask_0 : decode cX11_ask 0 = .ok (.iload_n 1, 1) := by decide +kernel
theorem dX11_ask_1 : decode cX11_ask 1 = .ok (.iconst 0, 1) := by decide +kernel
theorem dX11_ask_2 : decode cX11_ask 2 = .ok (.iconst 1, 1) := by decide +kernel
theorem dX11_ask_3 : decode cX11_ask 3 = .ok (.invokestatic 70, 3) := by decide +kernel
theorem dX11_ask_6 : decode cX11_ask 6 = .ok (.ifCond .ne 9, 3) := by decide +kernel
theorem dX11_ask_9 : decode cX11_ask 9 = .ok (.aload_n 0, 1) := by decide +kernel
theorem dX11_ask_10 : decode cX11_ask 10 = .ok (.invokevirtual 78, 3) := by decide +kernel
theorem dX11_ask_13 : decode cX11_ask 13 = .ok (.i2l, 1) := by decide +kernel
theorem dX11_ask_14 : decode cX11_ask 14 = .ok (.lreturn, 1) := by decide +kernel
theorem dX11_ask_15 : decode cX11_ask 15 = .ok (.aload_n 0, 1) := by decide +kernel
theorem dX11_ask_16 : decode cX11_ask 16 = .ok (.invokevirtual 236, 3) := by decide +kernel
theorem dX11_ask_19 : decode cX11_ask 19 = .ok (.lconst 0, 1) := by decide +kernel
theorem dX11_ask_20 : decode cX11_ask 20 = .ok (.lcmp, 1) := by decide +kernel
theorem dX11_ask_21 : decode cX11_ask 21 = .ok (.ifCond .ne 12, 3) := by decide +kernel
theorem dX11_ask_24 : decode cX11_ask 24 = .ok (.aload_n 0, 1) := by decide +kernel
theorem dX11_ask_25 : decode cX11_ask 25 = .ok (.iconst 1, 1) := by decide +kernel
theorem dX11_ask_26 : decode cX11_ask 26 = .ok (.bipush (-3), 2) := by decide +kernel
theorem dX11_ask_28 : decode cX11_ask 28 = .ok (.invokevirtual 66, 3) := by decide +kernel
theorem dX11_ask_31 : decode cX11_ask 31 = .ok (.i2l, 1) := by decide +kernel
theorem dX11_ask_32 : decode cX11_ask 32 = .ok (.lreturn, 1) := by decide +kernel
theorem dX11_ask_33 : decode cX11_ask 33 = .ok (.lconst 0, 1) := by decide +kernel
theorem dX11_ask_34 : decode cX11_ask 34 = .ok (.lstore_n 2, 1) := by decide +kernel
theorem dX11_ask_35 : decode cX11_ask 35 = .ok (.ldc2_w 242, 3) := by decide +kernel
theorem dX11_ask_38 : decode cX11_ask 38 = .ok (.lstore 4, 2) := by decide +kernel
theorem dX11_ask_40 : decode cX11_ask 40 = .ok (.iconst 0, 1) := by decide +kernel
theorem dX11_ask_41 : decode cX11_ask 41 = .ok (.istore 6, 2) := by decide +kernel
theorem dX11_ask_43 : decode cX11_ask 43 = .ok (.iload 6, 2) := by decide +kernel
theorem dX11_ask_45 : decode cX11_ask 45 = .ok (.iconst 2, 1) := by decide +kernel
theorem dX11_ask_46 : decode cX11_ask 46 = .ok (.aload_n 0, 1) := by decide +kernel
theorem dX11_ask_47 : decode cX11_ask 47 = .ok (.getfield 7, 3) := by decide +kernel
theorem dX11_ask_50 : decode cX11_ask 50 = .ok (.iconst 0, 1) := by decide +kernel
theorem dX11_ask_51 : decode cX11_ask 51 = .ok (.iaload, 1) := by decide +kernel
theorem dX11_ask_52 : decode cX11_ask 52 = .ok (.imul, 1) := by decide +kernel
theorem dX11_ask_53 : decode cX11_ask 53 = .ok (.if_icmp .ge 150, 3) := by decide +kernel
theorem dX11_ask_56 : decode cX11_ask 56 = .ok (.iload 6, 2) := by decide +kernel
theorem dX11_ask_58 : decode cX11_ask 58 = .ok (.iconst 1, 1) := by decide +kernel
theorem dX11_ask_59 : decode cX11_ask 59 = .ok (.iadd, 1) := by decide +kernel
theorem dX11_ask_60 : decode cX11_ask 60 = .ok (.istore 7, 2) := by decide +kernel
theorem dX11_ask_62 : decode cX11_ask 62 = .ok (.iload 7, 2) := by decide +kernel
theorem dX11_ask_64 : decode cX11_ask 64 = .ok (.iconst 2, 1) := by decide +kernel
theorem dX11_ask_65 : decode cX11_ask 65 = .ok (.aload_n 0, 1) := by decide +kernel
theorem dX11_ask_66 : decode cX11_ask 66 = .ok (.getfield 7, 3) := by decide +kernel
theorem dX11_ask_69 : decode cX11_ask 69 = .ok (.iconst 0, 1) := by decide +kernel
theorem dX11_ask_70 : decode cX11_ask 70 = .ok (.iaload, 1) := by decide +kernel
theorem dX11_ask_71 : decode cX11_ask 71 = .ok (.imul, 1) := by decide +kernel
theorem dX11_ask_72 : decode cX11_ask 72 = .ok (.if_icmp .ge 125, 3) := by decide +kernel
theorem dX11_ask_75 : decode cX11_ask 75 = .ok (.aload_n 0, 1) := by decide +kernel
theorem dX11_ask_76 : decode cX11_ask 76 = .ok (.getfield 48, 3) := by decide +kernel
theorem dX11_ask_79 : decode cX11_ask 79 = .ok (.bipush 12, 2) := by decide +kernel
theorem dX11_ask_81 : decode cX11_ask 81 = .ok (.iload 6, 2) := by decide +kernel
theorem dX11_ask_83 : decode cX11_ask 83 = .ok (.imul, 1) := by decide +kernel
theorem dX11_ask_84 : decode cX11_ask 84 = .ok (.iload 7, 2) := by decide +kernel
theorem dX11_ask_86 : decode cX11_ask 86 = .ok (.iadd, 1) := by decide +kernel
theorem dX11_ask_87 : decode cX11_ask 87 = .ok (.laload, 1) := by decide +kernel
theorem dX11_ask_88 : decode cX11_ask 88 = .ok (.aload_n 0, 1) := by decide +kernel
theorem dX11_ask_89 : decode cX11_ask 89 = .ok (.getfield 45, 3) := by decide +kernel
theorem dX11_ask_92 : decode cX11_ask 92 = .ok (.bipush 12, 2) := by decide +kernel
theorem dX11_ask_94 : decode cX11_ask 94 = .ok (.iload 6, 2) := by decide +kernel
theorem dX11_ask_96 : decode cX11_ask 96 = .ok (.imul, 1) := by decide +kernel
theorem dX11_ask_97 : decode cX11_ask 97 = .ok (.iload 7, 2) := by decide +kernel
theorem dX11_ask_99 : decode cX11_ask 99 = .ok (.iadd, 1) := by decide +kernel
theorem dX11_ask_100 : decode cX11_ask 100 = .ok (.laload, 1) := by decide +kernel
theorem dX11_ask_101 : decode cX11_ask 101 = .ok (.aload_n 0, 1) := by decide +kernel
theorem dX11_ask_102 : decode cX11_ask 102 = .ok (.getfield 45, 3) := by decide +kernel
theorem dX11_ask_105 : decode cX11_ask 105 = .ok (.bipush 12, 2) := by decide +kernel
theorem dX11_ask_107 : decode cX11_ask 107 = .ok (.iload 7, 2) := by decide +kernel
theorem dX11_ask_109 : decode cX11_ask 109 = .ok (.imul, 1) := by decide +kernel
theorem dX11_ask_110 : decode cX11_ask 110 = .ok (.iload 6, 2) := by decide +kernel
theorem dX11_ask_112 : decode cX11_ask 112 = .ok (.iadd, 1) := by decide +kernel
theorem dX11_ask_113 : decode cX11_ask 113 = .ok (.laload, 1) := by decide +kernel
theorem dX11_ask_114 : decode cX11_ask 114 = .ok (.invokestatic 244, 3) := by decide +kernel
theorem dX11_ask_117 : decode cX11_ask 117 = .ok (.invokestatic 244, 3) := by decide +kernel
theorem dX11_ask_120 : decode cX11_ask 120 = .ok (.lstore 8, 2) := by decide +kernel
theorem dX11_ask_122 : decode cX11_ask 122 = .ok (.aload_n 0, 1) := by decide +kernel
theorem dX11_ask_123 : decode cX11_ask 123 = .ok (.iload 6, 2) := by decide +kernel
theorem dX11_ask_125 : decode cX11_ask 125 = .ok (.iload 7, 2) := by decide +kernel
theorem dX11_ask_127 : decode cX11_ask 127 = .ok (.invokevirtual 239, 3) := by decide +kernel
theorem dX11_ask_130 : decode cX11_ask 130 = .ok (.ifCond .ne 23, 3) := by decide +kernel
theorem dX11_ask_133 : decode cX11_ask 133 = .ok (.lload 4, 2) := by decide +kernel
theorem dX11_ask_135 : decode cX11_ask 135 = .ok (.ldc2_w 242, 3) := by decide +kernel
theorem dX11_ask_138 : decode cX11_ask 138 = .ok (.lcmp, 1) := by decide +kernel
theorem dX11_ask_139 : decode cX11_ask 139 = .ok (.ifCond .eq 10, 3) := by decide +kernel
theorem dX11_ask_142 : decode cX11_ask 142 = .ok (.lload 8, 2) := by decide +kernel
theorem dX11_ask_144 : decode cX11_ask 144 = .ok (.lload_n 2, 1) := by decide +kernel
theorem dX11_ask_145 : decode cX11_ask 145 = .ok (.lcmp, 1) := by decide +kernel
theorem dX11_ask_146 : decode cX11_ask 146 = .ok (.ifCond .ge 7, 3) := by decide +kernel
theorem dX11_ask_149 : decode cX11_ask 149 = .ok (.iconst 1, 1) := by decide +kernel
theorem dX11_ask_150 : decode cX11_ask 150 = .ok (.goto 4, 3) := by decide +kernel
theorem dX11_ask_153 : decode cX11_ask 153 = .ok (.iconst 0, 1) := by decide +kernel
theorem dX11_ask_154 : decode cX11_ask 154 = .ok (.istore 10, 2) := by decide +kernel
theorem dX11_ask_156 : decode cX11_ask 156 = .ok (.iload 10, 2) := by decide +kernel
theorem dX11_ask_158 : decode cX11_ask 158 = .ok (.ifCond .eq 17, 3) := by decide +kernel
theorem dX11_ask_161 : decode cX11_ask 161 = .ok (.ldc2_w 248, 3) := by decide +kernel
theorem dX11_ask_164 : decode cX11_ask 164 = .ok (.iload 6, 2) := by decide +kernel
theorem dX11_ask_166 : decode cX11_ask 166 = .ok (.i2l, 1) := by decide +kernel
theorem dX11_ask_167 : decode cX11_ask 167 = .ok (.lmul, 1) := by decide +kernel
theorem dX11_ask_168 : decode cX11_ask 168 = .ok (.iload 7, 2) := by decide +kernel
theorem dX11_ask_170 : decode cX11_ask 170 = .ok (.i2l, 1) := by decide +kernel
theorem dX11_ask_171 : decode cX11_ask 171 = .ok (.ladd, 1) := by decide +kernel
theorem dX11_ask_172 : decode cX11_ask 172 = .ok (.goto 5, 3) := by decide +kernel
theorem dX11_ask_175 : decode cX11_ask 175 = .ok (.lload 4, 2) := by decide +kernel
theorem dX11_ask_177 : decode cX11_ask 177 = .ok (.lstore 4, 2) := by decide +kernel
theorem dX11_ask_179 : decode cX11_ask 179 = .ok (.iload 10, 2) := by decide +kernel
theorem dX11_ask_181 : decode cX11_ask 181 = .ok (.ifCond .eq 8, 3) := by decide +kernel
theorem dX11_ask_184 : decode cX11_ask 184 = .ok (.lload 8, 2) := by decide +kernel
theorem dX11_ask_186 : decode cX11_ask 186 = .ok (.goto 4, 3) := by decide +kernel
theorem dX11_ask_189 : decode cX11_ask 189 = .ok (.lload_n 2, 1) := by decide +kernel
theorem dX11_ask_190 : decode cX11_ask 190 = .ok (.lstore_n 2, 1) := by decide +kernel
theorem dX11_ask_191 : decode cX11_ask 191 = .ok (.iinc 7 1, 3) := by decide +kernel
theorem dX11_ask_194 : decode cX11_ask 194 = .ok (.goto (-132), 3) := by decide +kernel
theorem dX11_ask_197 : decode cX11_ask 197 = .ok (.iinc 6 1, 3) := by decide +kernel
theorem dX11_ask_200 : decode cX11_ask 200 = .ok (.goto (-157), 3) := by decide +kernel
theorem dX11_ask_203 : decode cX11_ask 203 = .ok (.lload 4, 2) := by decide +kernel
theorem dX11_ask_205 : decode cX11_ask 205 = .ok (.ldc2_w 242, 3) := by decide +kernel
theorem dX11_ask_208 : decode cX11_ask 208 = .ok (.lcmp, 1) := by decide +kernel
theorem dX11_ask_209 : decode cX11_ask 209 = .ok (.ifCond .eq 7, 3) := by decide +kernel
theorem dX11_ask_212 : decode cX11_ask 212 = .ok (.iload_n 1, 1) := by decide +kernel
theorem dX11_ask_213 : decode cX11_ask 213 = .ok (.ifCond .ne 8, 3) := by decide +kernel
theorem dX11_ask_216 : decode cX11_ask 216 = .ok (.lload 4, 2) := by decide +kernel
theorem dX11_ask_218 : decode cX11_ask 218 = .ok (.goto 4, 3) := by decide +kernel
theorem dX11_ask_221 : decode cX11_ask 221 = .ok (.lload_n 2, 1) := by decide +kernel
theorem dX11_ask_222 : decode cX11_ask 222 = .ok (.lreturn, 1) := by decide +kernel
theorem dX11_mateOf_0 : decode cX11_mateOf 0 = .ok (.iload_n 0, 1) := by decide +kernel
theorem dX11_mateOf_1 : decode cX11_mateOf 1 = .ok (.iconst 2, 1) := by decide +kernel
theorem dX11_mateOf_2 : decode cX11_mateOf 2 = .ok (.idiv, 1) := by decide +kernel
theorem dX11_mateOf_3 : decode cX11_mateOf 3 = .ok (.istore_n 2, 1) := by decide +kernel
theorem dX11_mateOf_4 : decode cX11_mateOf 4 = .ok (.iload_n 1, 1) := by decide +kernel
theorem dX11_mateOf_5 : decode cX11_mateOf 5 = .ok (.ifCond .ne 5, 3) := by decide +kernel
theorem dX11_mateOf_8 : decode cX11_mateOf 8 = .ok (.iload_n 2, 1) := by decide +kernel
theorem dX11_mateOf_9 : decode cX11_mateOf 9 = .ok (.ireturn, 1) := by decide +kernel
theorem dX11_mateOf_10 : decode cX11_mateOf 10 = .ok (.iload_n 2, 1) := by decide +kernel
theorem dX11_mateOf_11 : decode cX11_mateOf 11 = .ok (.ifCond .ne 7, 3) := by decide +kernel
theorem dX11_mateOf_14 : decode cX11_mateOf 14 = .ok (.iconst 1, 1) := by decide +kernel
theorem dX11_mateOf_15 : decode cX11_mateOf 15 = .ok (.goto 4, 3) := by decide +kernel
theorem dX11_mateOf_18 : decode cX11_mateOf 18 = .ok (.iconst 0, 1) := by decide +kernel
theorem dX11_mateOf_19 : decode cX11_mateOf 19 = .ok (.istore_n 3, 1) := by decide +kernel
theorem dX11_mateOf_20 : decode cX11_mateOf 20 = .ok (.iconst 3, 1) := by decide +kernel
theorem dX11_mateOf_21 : decode cX11_mateOf 21 = .ok (.iload_n 2, 1) := by decide +kernel
theorem dX11_mateOf_22 : decode cX11_mateOf 22 = .ok (.isub, 1) := by decide +kernel
theorem dX11_mateOf_23 : decode cX11_mateOf 23 = .ok (.iload_n 3, 1) := by decide +kernel
theorem dX11_mateOf_24 : decode cX11_mateOf 24 = .ok (.isub, 1) := by decide +kernel
theorem dX11_mateOf_25 : decode cX11_mateOf 25 = .ok (.istore 4, 2) := by decide +kernel
theorem dX11_mateOf_27 : decode cX11_mateOf 27 = .ok (.iload_n 1, 1) := by decide +kernel
theorem dX11_mateOf_28 : decode cX11_mateOf 28 = .ok (.iconst 1, 1) := by decide +kernel
theorem dX11_mateOf_29 : decode cX11_mateOf 29 = .ok (.if_icmp .ne 7, 3) := by decide +kernel
theorem dX11_mateOf_32 : decode cX11_mateOf 32 = .ok (.iconst 1, 1) := by decide +kernel
theorem dX11_mateOf_33 : decode cX11_mateOf 33 = .ok (.goto 4, 3) := by decide +kernel
theorem dX11_mateOf_36 : decode cX11_mateOf 36 = .ok (.iconst 0, 1) := by decide +kernel
theorem dX11_mateOf_37 : decode cX11_mateOf 37 = .ok (.iload_n 0, 1) := by decide +kernel
theorem dX11_mateOf_38 : decode cX11_mateOf 38 = .ok (.iconst 2, 1) := by decide +kernel
theorem dX11_mateOf_39 : decode cX11_mateOf 39 = .ok (.irem, 1) := by decide +kernel
theorem dX11_mateOf_40 : decode cX11_mateOf 40 = .ok (.ifCond .ne 7, 3) := by decide +kernel
theorem dX11_mateOf_43 : decode cX11_mateOf 43 = .ok (.iconst 1, 1) := by decide +kernel
theorem dX11_mateOf_44 : decode cX11_mateOf 44 = .ok (.goto 4, 3) := by decide +kernel
theorem dX11_mateOf_47 : decode cX11_mateOf 47 = .ok (.iconst 0, 1) := by decide +kernel
theorem dX11_mateOf_48 : decode cX11_mateOf 48 = .ok (.if_icmp .ne 7, 3) := by decide +kernel
theorem dX11_mateOf_51 : decode cX11_mateOf 51 = .ok (.iload_n 3, 1) := by decide +kernel
theorem dX11_mateOf_52 : decode cX11_mateOf 52 = .ok (.goto 5, 3) := by decide +kernel
theorem dX11_mateOf_55 : decode cX11_mateOf 55 = .ok (.iload 4, 2) := by decide +kernel
theorem dX11_mateOf_57 : decode cX11_mateOf 57 = .ok (.ireturn, 1) := by decide +kernel
set_option maxRecDepth 20000 in
theorem ggX11_one_X11_refuses : GoodIn wsX11_one wsX11_refuses := goodIn_r _ [9, 10, 68, 69, 70, 71, 72, 73, 74, 75, 76, 77, 78, 79, 80, 81, 82, 83, 84, 85, 86, 87, 88, 89, 90, 91, 92, 93, 94, 95] (by decide +kernel) (by decide +kernel)
set_option maxRecDepth 20000 in
theorem gX11_one_X11_refuses : GoodIn wsX11_one (wsV RX11 66 RX11 yX11_refuses wsX11_refuses) := goodIn_app (goodIn_of _ (by decide +kernel)) ggX11_one_X11_refuses
set_option maxRecDepth 20000 in
theorem ggX11_one_X11_plain : GoodIn wsX11_one wsX11_plain := goodIn_r _ [14, 15, 16, 4, 68, 69, 70, 71, 72, 73, 74, 75, 76, 77, 78, 79, 80, 81, 82, 83, 84, 85, 86, 87, 88, 89, 90, 91, 92, 93, 94, 95] (by decide +kernel) (by decide +kernel)
set_option maxRecDepth 20000 in
theorem gX11_one_X11_plain : GoodIn wsX11_one (wsV RX11 205 RX11 yX11_plain wsX11_plain) := goodIn_app (goodIn_of _ (by decide +kernel)) ggX11_one_X11_plain
set_option maxRecDepth 20000 in
theorem ggX11_one_X11_mateOf : GoodIn wsX11_one wsX11_mateOf := goodIn_r _ [19] (by decide +kernel) (by decide +kernel)
set_option maxRecDepth 20000 in
theorem gX11_one_X11_mateOf : GoodIn wsX11_one (va_wsS RX11 250 yX11_mateOf wsX11_mateOf) := goodIn_app (goodIn_of _ (by decide +kernel)) ggX11_one_X11_mateOf
set_option maxRecDepth 20000 in
theorem ggX11_one_X11_counts : GoodIn wsX11_one wsX11_counts := goodIn_r _ [23, 24, 25, 26, 27, 8, 28, 1, 29, 30, 31, 32, 33, 34, 35, 36, 37, 38, 39, 40, 41, 42, 43, 44, 45, 46, 16, 47, 15, 4, 48, 49, 50, 51, 52, 53, 54, 55, 56, 57, 58, 59, 60, 61, 62, 63, 64, 65, 66, 67, 68, 69, 70, 71, 72, 73, 74, 75, 76, 77, 78, 79, 80, 81, 82, 83, 84, 85, 86, 87, 88, 89, 90, 91, 92, 93, 94, 95] (by decide +kernel) (by decide +kernel)
set_option maxRecDepth 20000 in
theorem gX11_one_X11_counts : GoodIn wsX11_one (wsV RX11 208 RX11 yX11_counts wsX11_counts) := goodIn_app (goodIn_of _ (by decide +kernel)) ggX11_one_X11_counts
theorem dX11_one_0 : decode cX11_one 0 = .ok (.iconst 0, 1) := by decide +kernel
theorem dX11_one_1 : decode cX11_one 1 = .ok (.istore_n 2, 1) := by decide +kernel
theorem dX11_one_2 : decode cX11_one 2 = .ok (.iconst 0, 1) := by decide +kernel
theorem dX11_one_3 : decode cX11_one 3 = .ok (.istore_n 3, 1) := by decide +kernel
theorem dX11_one_4 : decode cX11_one 4 = .ok (.iconst 0, 1) := by decide +kernel
theorem dX11_one_5 : decode cX11_one 5 = .ok (.istore 4, 2) := by decide +kernel
theorem dX11_one_7 : decode cX11_one 7 = .ok (.iload 4, 2) := by decide +kernel
theorem dX11_one_9 : decode cX11_one 9 = .ok (.aload_n 0, 1) := by decide +kernel
theorem dX11_one_10 : decode cX11_one 10 = .ok (.getfield 7, 3) := by decide +kernel
theorem dX11_one_13 : decode cX11_one 13 = .ok (.iconst 0, 1) := by decide +kernel
theorem dX11_one_14 : decode cX11_one 14 = .ok (.iaload, 1) := by decide +kernel
theorem dX11_one_15 : decode cX11_one 15 = .ok (.if_icmp .ge 47, 3) := by decide +kernel
theorem dX11_one_18 : decode cX11_one 18 = .ok (.aload_n 0, 1) := by decide +kernel
theorem dX11_one_19 : decode cX11_one 19 = .ok (.getfield 7, 3) := by decide +kernel
theorem dX11_one_22 : decode cX11_one 22 = .ok (.bipush 8, 2) := by decide +kernel
theorem dX11_one_24 : decode cX11_one 24 = .ok (.iload 4, 2) := by decide +kernel
theorem dX11_one_26 : decode cX11_one 26 = .ok (.iadd, 1) := by decide +kernel
theorem dX11_one_27 : decode cX11_one 27 = .ok (.iaload, 1) := by decide +kernel
theorem dX11_one_28 : decode cX11_one 28 = .ok (.ifCond .ne 17, 3) := by decide +kernel
theorem dX11_one_31 : decode cX11_one 31 = .ok (.aload_n 0, 1) := by decide +kernel
theorem dX11_one_32 : decode cX11_one 32 = .ok (.getfield 51, 3) := by decide +kernel
theorem dX11_one_35 : decode cX11_one 35 = .ok (.iload_n 2, 1) := by decide +kernel
theorem dX11_one_36 : decode cX11_one 36 = .ok (.iload 4, 2) := by decide +kernel
theorem dX11_one_38 : decode cX11_one 38 = .ok (.iastore, 1) := by decide +kernel
theorem dX11_one_39 : decode cX11_one 39 = .ok (.iinc 2 1, 3) := by decide +kernel
theorem dX11_one_42 : decode cX11_one 42 = .ok (.goto 14, 3) := by decide +kernel
theorem dX11_one_45 : decode cX11_one 45 = .ok (.aload_n 0, 1) := by decide +kernel
theorem dX11_one_46 : decode cX11_one 46 = .ok (.getfield 54, 3) := by decide +kernel
theorem dX11_one_49 : decode cX11_one 49 = .ok (.iload_n 3, 1) := by decide +kernel
theorem dX11_one_50 : decode cX11_one 50 = .ok (.iload 4, 2) := by decide +kernel
theorem dX11_one_52 : decode cX11_one 52 = .ok (.iastore, 1) := by decide +kernel
theorem dX11_one_53 : decode cX11_one 53 = .ok (.iinc 3 1, 3) := by decide +kernel
theorem dX11_one_56 : decode cX11_one 56 = .ok (.iinc 4 1, 3) := by decide +kernel
theorem dX11_one_59 : decode cX11_one 59 = .ok (.goto (-52), 3) := by decide +kernel
theorem dX11_one_62 : decode cX11_one 62 = .ok (.iload_n 2, 1) := by decide +kernel
theorem dX11_one_63 : decode cX11_one 63 = .ok (.iload_n 3, 1) := by decide +kernel
theorem dX11_one_64 : decode cX11_one 64 = .ok (.if_icmp .ne 12, 3) := by decide +kernel
theorem dX11_one_67 : decode cX11_one 67 = .ok (.iload_n 2, 1) := by decide +kernel
theorem dX11_one_68 : decode cX11_one 68 = .ok (.ifCond .eq 8, 3) := by decide +kernel
theorem dX11_one_71 : decode cX11_one 71 = .ok (.iload_n 1, 1) := by decide +kernel
theorem dX11_one_72 : decode cX11_one 72 = .ok (.iconst (-1), 1) := by decide +kernel
theorem dX11_one_73 : decode cX11_one 73 = .ok (.if_icmp .ge 11, 3) := by decide +kernel
theorem dX11_one_76 : decode cX11_one 76 = .ok (.aload_n 0, 1) := by decide +kernel
theorem dX11_one_77 : decode cX11_one 77 = .ok (.iconst 0, 1) := by decide +kernel
theorem dX11_one_78 : decode cX11_one 78 = .ok (.bipush (-10), 2) := by decide +kernel
theorem dX11_one_80 : decode cX11_one 80 = .ok (.invokevirtual 66, 3) := by decide +kernel
theorem dX11_one_83 : decode cX11_one 83 = .ok (.ireturn, 1) := by decide +kernel
theorem dX11_one_84 : decode cX11_one 84 = .ok (.iconst 0, 1) := by decide +kernel
theorem dX11_one_85 : decode cX11_one 85 = .ok (.istore 4, 2) := by decide +kernel
theorem dX11_one_87 : decode cX11_one 87 = .ok (.iconst (-1), 1) := by decide +kernel
theorem dX11_one_88 : decode cX11_one 88 = .ok (.istore 5, 2) := by decide +kernel
theorem dX11_one_90 : decode cX11_one 90 = .ok (.iconst 0, 1) := by decide +kernel
theorem dX11_one_91 : decode cX11_one 91 = .ok (.istore 6, 2) := by decide +kernel
theorem dX11_one_93 : decode cX11_one 93 = .ok (.iload 6, 2) := by decide +kernel
theorem dX11_one_95 : decode cX11_one 95 = .ok (.bipush 6, 2) := by decide +kernel
theorem dX11_one_97 : decode cX11_one 97 = .ok (.if_icmp .ge 167, 3) := by decide +kernel
theorem dX11_one_100 : decode cX11_one 100 = .ok (.aload_n 0, 1) := by decide +kernel
theorem dX11_one_101 : decode cX11_one 101 = .ok (.invokevirtual 205, 3) := by decide +kernel
theorem dX11_one_104 : decode cX11_one 104 = .ok (.iconst 1, 1) := by decide +kernel
theorem dX11_one_105 : decode cX11_one 105 = .ok (.istore 7, 2) := by decide +kernel
theorem dX11_one_107 : decode cX11_one 107 = .ok (.iconst 0, 1) := by decide +kernel
theorem dX11_one_108 : decode cX11_one 108 = .ok (.istore 8, 2) := by decide +kernel
theorem dX11_one_110 : decode cX11_one 110 = .ok (.iload 8, 2) := by decide +kernel
theorem dX11_one_112 : decode cX11_one 112 = .ok (.iconst 3, 1) := by decide +kernel
theorem dX11_one_113 : decode cX11_one 113 = .ok (.if_icmp .ge 69, 3) := by decide +kernel
theorem dX11_one_116 : decode cX11_one 116 = .ok (.iload 7, 2) := by decide +kernel
theorem dX11_one_118 : decode cX11_one 118 = .ok (.ifCond .eq 55, 3) := by decide +kernel
theorem dX11_one_121 : decode cX11_one 121 = .ok (.iload 8, 2) := by decide +kernel
theorem dX11_one_123 : decode cX11_one 123 = .ok (.iload_n 2, 1) := by decide +kernel
theorem dX11_one_124 : decode cX11_one 124 = .ok (.if_icmp .ge 7, 3) := by decide +kernel
theorem dX11_one_127 : decode cX11_one 127 = .ok (.iconst 1, 1) := by decide +kernel
theorem dX11_one_128 : decode cX11_one 128 = .ok (.goto 4, 3) := by decide +kernel
theorem dX11_one_131 : decode cX11_one 131 = .ok (.iconst 0, 1) := by decide +kernel
theorem dX11_one_132 : decode cX11_one 132 = .ok (.iload 6, 2) := by decide +kernel
theorem dX11_one_134 : decode cX11_one 134 = .ok (.iload 8, 2) := by decide +kernel
theorem dX11_one_136 : decode cX11_one 136 = .ok (.invokestatic 250, 3) := by decide +kernel
theorem dX11_one_139 : decode cX11_one 139 = .ok (.iload_n 2, 1) := by decide +kernel
theorem dX11_one_140 : decode cX11_one 140 = .ok (.if_icmp .ge 7, 3) := by decide +kernel
theorem dX11_one_143 : decode cX11_one 143 = .ok (.iconst 1, 1) := by decide +kernel
theorem dX11_one_144 : decode cX11_one 144 = .ok (.goto 4, 3) := by decide +kernel
theorem dX11_one_147 : decode cX11_one 147 = .ok (.iconst 0, 1) := by decide +kernel
theorem dX11_one_148 : decode cX11_one 148 = .ok (.if_icmp .ne 25, 3) := by decide +kernel
theorem dX11_one_151 : decode cX11_one 151 = .ok (.iload 8, 2) := by decide +kernel
theorem dX11_one_153 : decode cX11_one 153 = .ok (.iload_n 2, 1) := by decide +kernel
theorem dX11_one_154 : decode cX11_one 154 = .ok (.if_icmp .lt 15, 3) := by decide +kernel
theorem dX11_one_157 : decode cX11_one 157 = .ok (.iload 6, 2) := by decide +kernel
theorem dX11_one_159 : decode cX11_one 159 = .ok (.iload 8, 2) := by decide +kernel
theorem dX11_one_161 : decode cX11_one 161 = .ok (.invokestatic 250, 3) := by decide +kernel
theorem dX11_one_164 : decode cX11_one 164 = .ok (.iload 8, 2) := by decide +kernel
theorem dX11_one_166 : decode cX11_one 166 = .ok (.if_icmp .ne 7, 3) := by decide +kernel
theorem dX11_one_169 : decode cX11_one 169 = .ok (.iconst 1, 1) := by decide +kernel
theorem dX11_one_170 : decode cX11_one 170 = .ok (.goto 4, 3) := by decide +kernel
theorem dX11_one_173 : decode cX11_one 173 = .ok (.iconst 0, 1) := by decide +kernel
theorem dX11_one_174 : decode cX11_one 174 = .ok (.istore 7, 2) := by decide +kernel
theorem dX11_one_176 : decode cX11_one 176 = .ok (.iinc 8 1, 3) := by decide +kernel
theorem dX11_one_179 : decode cX11_one 179 = .ok (.goto (-69), 3) := by decide +kernel
theorem dX11_one_182 : decode cX11_one 182 = .ok (.iconst 0, 1) := by decide +kernel
theorem dX11_one_183 : decode cX11_one 183 = .ok (.istore 8, 2) := by decide +kernel
theorem dX11_one_185 : decode cX11_one 185 = .ok (.iload 8, 2) := by decide +kernel
theorem dX11_one_187 : decode cX11_one 187 = .ok (.iload_n 2, 1) := by decide +kernel
theorem dX11_one_188 : decode cX11_one 188 = .ok (.if_icmp .ge 38, 3) := by decide +kernel
theorem dX11_one_191 : decode cX11_one 191 = .ok (.iload 7, 2) := by decide +kernel
theorem dX11_one_193 : decode cX11_one 193 = .ok (.ifCond .eq 33, 3) := by decide +kernel
theorem dX11_one_196 : decode cX11_one 196 = .ok (.aload_n 0, 1) := by decide +kernel
theorem dX11_one_197 : decode cX11_one 197 = .ok (.getfield 29, 3) := by decide +kernel
theorem dX11_one_200 : decode cX11_one 200 = .ok (.aload_n 0, 1) := by decide +kernel
theorem dX11_one_201 : decode cX11_one 201 = .ok (.getfield 51, 3) := by decide +kernel
theorem dX11_one_204 : decode cX11_one 204 = .ok (.iload 8, 2) := by decide +kernel
theorem dX11_one_206 : decode cX11_one 206 = .ok (.iaload, 1) := by decide +kernel
theorem dX11_one_207 : decode cX11_one 207 = .ok (.aload_n 0, 1) := by decide +kernel
theorem dX11_one_208 : decode cX11_one 208 = .ok (.getfield 54, 3) := by decide +kernel
theorem dX11_one_211 : decode cX11_one 211 = .ok (.iload 6, 2) := by decide +kernel
theorem dX11_one_213 : decode cX11_one 213 = .ok (.iload 8, 2) := by decide +kernel
theorem dX11_one_215 : decode cX11_one 215 = .ok (.invokestatic 250, 3) := by decide +kernel
theorem dX11_one_218 : decode cX11_one 218 = .ok (.iaload, 1) := by decide +kernel
theorem dX11_one_219 : decode cX11_one 219 = .ok (.iastore, 1) := by decide +kernel
theorem dX11_one_220 : decode cX11_one 220 = .ok (.iinc 8 1, 3) := by decide +kernel
theorem dX11_one_223 : decode cX11_one 223 = .ok (.goto (-38), 3) := by decide +kernel
theorem dX11_one_226 : decode cX11_one 226 = .ok (.iload 7, 2) := by decide +kernel
theorem dX11_one_228 : decode cX11_one 228 = .ok (.ifCond .eq 30, 3) := by decide +kernel
theorem dX11_one_231 : decode cX11_one 231 = .ok (.aload_n 0, 1) := by decide +kernel
theorem dX11_one_232 : decode cX11_one 232 = .ok (.invokevirtual 208, 3) := by decide +kernel
theorem dX11_one_235 : decode cX11_one 235 = .ok (.lconst 0, 1) := by decide +kernel
theorem dX11_one_236 : decode cX11_one 236 = .ok (.lcmp, 1) := by decide +kernel
theorem dX11_one_237 : decode cX11_one 237 = .ok (.ifCond .le 21, 3) := by decide +kernel
theorem dX11_one_240 : decode cX11_one 240 = .ok (.iinc 4 1, 3) := by decide +kernel
theorem dX11_one_243 : decode cX11_one 243 = .ok (.iload 5, 2) := by decide +kernel
theorem dX11_one_245 : decode cX11_one 245 = .ok (.iconst (-1), 1) := by decide +kernel
theorem dX11_one_246 : decode cX11_one 246 = .ok (.if_icmp .ne 8, 3) := by decide +kernel
theorem dX11_one_249 : decode cX11_one 249 = .ok (.iload 6, 2) := by decide +kernel
theorem dX11_one_251 : decode cX11_one 251 = .ok (.goto 5, 3) := by decide +kernel
theorem dX11_one_254 : decode cX11_one 254 = .ok (.iload 5, 2) := by decide +kernel
theorem dX11_one_256 : decode cX11_one 256 = .ok (.istore 5, 2) := by decide +kernel
theorem dX11_one_258 : decode cX11_one 258 = .ok (.iinc 6 1, 3) := by decide +kernel
theorem dX11_one_261 : decode cX11_one 261 = .ok (.goto (-168), 3) := by decide +kernel
theorem dX11_one_264 : decode cX11_one 264 = .ok (.iload_n 1, 1) := by decide +kernel
theorem dX11_one_265 : decode cX11_one 265 = .ok (.iconst (-1), 1) := by decide +kernel
theorem dX11_one_266 : decode cX11_one 266 = .ok (.if_icmp .ne 8, 3) := by decide +kernel
theorem dX11_one_269 : decode cX11_one 269 = .ok (.iload 4, 2) := by decide +kernel
theorem dX11_one_271 : decode cX11_one 271 = .ok (.goto 39, 3) := by decide +kernel
theorem dX11_one_274 : decode cX11_one 274 = .ok (.iload_n 1, 1) := by decide +kernel
theorem dX11_one_275 : decode cX11_one 275 = .ok (.iload_n 2, 1) := by decide +kernel
theorem dX11_one_276 : decode cX11_one 276 = .ok (.if_icmp .ge 9, 3) := by decide +kernel
theorem dX11_one_279 : decode cX11_one 279 = .ok (.iload 5, 2) := by decide +kernel
theorem dX11_one_281 : decode cX11_one 281 = .ok (.iconst (-1), 1) := by decide +kernel
theorem dX11_one_282 : decode cX11_one 282 = .ok (.if_icmp .ne 8, 3) := by decide +kernel
theorem dX11_one_285 : decode cX11_one 285 = .ok (.bipush (-5), 2) := by decide +kernel
theorem dX11_one_287 : decode cX11_one 287 = .ok (.goto 23, 3) := by decide +kernel
theorem dX11_one_290 : decode cX11_one 290 = .ok (.aload_n 0, 1) := by decide +kernel
theorem dX11_one_291 : decode cX11_one 291 = .ok (.getfield 54, 3) := by decide +kernel
theorem dX11_one_294 : decode cX11_one 294 = .ok (.iload 5, 2) := by decide +kernel
theorem dX11_one_296 : decode cX11_one 296 = .ok (.ifCond .ge 7, 3) := by decide +kernel
theorem dX11_one_299 : decode cX11_one 299 = .ok (.iconst 0, 1) := by decide +kernel
theorem dX11_one_300 : decode cX11_one 300 = .ok (.goto 5, 3) := by decide +kernel
theorem dX11_one_303 : decode cX11_one 303 = .ok (.iload 5, 2) := by decide +kernel
theorem dX11_one_305 : decode cX11_one 305 = .ok (.iload_n 1, 1) := by decide +kernel
theorem dX11_one_306 : decode cX11_one 306 = .ok (.invokestatic 250, 3) := by decide +kernel
theorem dX11_one_309 : decode cX11_one 309 = .ok (.iaload, 1) := by decide +kernel
theorem dX11_one_310 : decode cX11_one 310 = .ok (.ireturn, 1) := by decide +kernel
theorem dX11_without_0 : decode cX11_without 0 = .ok (.iconst 0, 1) := by decide +kernel
theorem dX11_without_1 : decode cX11_without 1 = .ok (.istore_n 2, 1) := by decide +kernel
theorem dX11_without_2 : decode cX11_without 2 = .ok (.iconst 0, 1) := by decide +kernel
theorem dX11_without_3 : decode cX11_without 3 = .ok (.istore_n 3, 1) := by decide +kernel
theorem dX11_without_4 : decode cX11_without 4 = .ok (.iload_n 3, 1) := by decide +kernel
theorem dX11_without_5 : decode cX11_without 5 = .ok (.aload_n 0, 1) := by decide +kernel
theorem dX11_without_6 : decode cX11_without 6 = .ok (.getfield 7, 3) := by decide +kernel
theorem dX11_without_9 : decode cX11_without 9 = .ok (.iconst 1, 1) := by decide +kernel
theorem dX11_without_10 : decode cX11_without 10 = .ok (.iaload, 1) := by decide +kernel
theorem dX11_without_11 : decode cX11_without 11 = .ok (.if_icmp .ge 32, 3) := by decide +kernel
theorem dX11_without_14 : decode cX11_without 14 = .ok (.iload_n 2, 1) := by decide +kernel
theorem dX11_without_15 : decode cX11_without 15 = .ok (.aload_n 0, 1) := by decide +kernel
theorem dX11_without_16 : decode cX11_without 16 = .ok (.getfield 7, 3) := by decide +kernel
theorem dX11_without_19 : decode cX11_without 19 = .ok (.bipush 38, 2) := by decide +kernel
theorem dX11_without_21 : decode cX11_without 21 = .ok (.iload_n 3, 1) := by decide +kernel
theorem dX11_without_22 : decode cX11_without 22 = .ok (.iadd, 1) := by decide +kernel
theorem dX11_without_23 : decode cX11_without 23 = .ok (.iaload, 1) := by decide +kernel
theorem dX11_without_24 : decode cX11_without 24 = .ok (.iload_n 1, 1) := by decide +kernel
theorem dX11_without_25 : decode cX11_without 25 = .ok (.if_icmp .eq 9, 3) := by decide +kernel
theorem dX11_without_28 : decode cX11_without 28 = .ok (.iconst 1, 1) := by decide +kernel
theorem dX11_without_29 : decode cX11_without 29 = .ok (.iload_n 3, 1) := by decide +kernel
theorem dX11_without_30 : decode cX11_without 30 = .ok (.ishl, 1) := by decide +kernel
theorem dX11_without_31 : decode cX11_without 31 = .ok (.goto 4, 3) := by decide +kernel
theorem dX11_without_34 : decode cX11_without 34 = .ok (.iconst 0, 1) := by decide +kernel
theorem dX11_without_35 : decode cX11_without 35 = .ok (.ior, 1) := by decide +kernel
theorem dX11_without_36 : decode cX11_without 36 = .ok (.istore_n 2, 1) := by decide +kernel
theorem dX11_without_37 : decode cX11_without 37 = .ok (.iinc 3 1, 3) := by decide +kernel
theorem dX11_without_40 : decode cX11_without 40 = .ok (.goto (-36), 3) := by decide +kernel
theorem dX11_without_43 : decode cX11_without 43 = .ok (.iload_n 2, 1) := by decide +kernel
theorem dX11_without_44 : decode cX11_without 44 = .ok (.ireturn, 1) := by decide +kernel
set_option maxRecDepth 20000 in
theorem ggX11_word_X11_in : GoodIn wsX11_word wsX11_in := goodIn_r _ [4] (by decide +kernel) (by decide +kernel)
set_option maxRecDepth 20000 in
theorem gX11_word_X11_in : GoodIn wsX11_word (va_wsS RX11 70 yX11_in wsX11_in) := goodIn_app (goodIn_of _ (by decide +kernel)) ggX11_word_X11_in
set_option maxRecDepth 20000 in
theorem ggX11_word_X11_bad : GoodIn wsX11_word wsX11_bad := goodIn_r _ [8, 9, 10, 11, 3, 12, 13, 78, 79, 80, 81, 82, 83, 84, 85, 86, 87, 88, 89, 90, 91, 92, 93, 94, 95, 96, 97, 98, 99, 100, 101, 102, 103, 104, 105] (by decide +kernel) (by decide +kernel)
set_option maxRecDepth 20000 in
theorem gX11_word_X11_bad : GoodIn wsX11_word (wsV RX11 78 RX11 yX11_bad wsX11_bad) := goodIn_app (goodIn_of _ (by decide +kernel)) ggX11_word_X11_bad
set_option maxRecDepth 20000 in
theorem ggX11_word_X11_without : GoodIn wsX11_word wsX11_without := goodIn_r _ [17, 18, 78, 79, 80, 81, 82, 83, 84, 85, 86, 87, 88, 89, 90, 91, 92, 93, 94, 95, 96, 97, 98, 99, 100, 101, 102, 103, 104, 105] (by decide +kernel) (by decide +kernel)
set_option maxRecDepth 20000 in
theorem gX11_word_X11_without : GoodIn wsX11_word (wsV RX11 253 RX11 yX11_without wsX11_without) := goodIn_app (goodIn_of _ (by decide +kernel)) ggX11_word_X11_without
set_option maxRecDepth 20000 in
theorem ggX11_word_X11_fitsBy : GoodIn wsX11_word wsX11_fitsBy := goodIn_r _ [22, 23, 24, 25, 26, 3, 27, 28, 29, 30, 31, 32, 33, 34, 35, 36, 37, 38, 18, 39, 40, 41, 42, 43, 44, 45, 46, 47, 48, 49, 50, 51, 52, 53, 54, 55, 56, 57, 58, 59, 60, 61, 62, 63, 64, 65, 66, 67, 68, 69, 70, 71, 72, 73, 74, 75, 76, 77, 78, 79, 80, 81, 82, 83, 84, 85, 86, 87, 88, 89, 90, 91, 92, 93, 94, 95, 96, 97, 98, 99, 100, 101, 102, 103, 104, 105] (by decide +kernel) (by decide +kernel)
set_option maxRecDepth 20000 in
theorem gX11_word_X11_fitsBy : GoodIn wsX11_word (wsV RX11 223 RX11 yX11_fitsBy wsX11_fitsBy) := goodIn_app (goodIn_of _ (by decide +kernel)) ggX11_word_X11_fitsBy
theorem dX11_word_0 : decode cX11_word 0 = .ok (.iload_n 1, 1) := by decide +kernel
theorem dX11_word_1 : decode cX11_word 1 = .ok (.iconst 0, 1) := by decide +kernel
theorem dX11_word_2 : decode cX11_word 2 = .ok (.iconst 3, 1) := by decide +kernel
theorem dX11_word_3 : decode cX11_word 3 = .ok (.invokestatic 70, 3) := by decide +kernel
theorem dX11_word_6 : decode cX11_word 6 = .ok (.ifCond .ne 10, 3) := by decide +kernel
theorem dX11_word_9 : decode cX11_word 9 = .ok (.aload_n 0, 1) := by decide +kernel
theorem dX11_word_10 : decode cX11_word 10 = .ok (.invokevirtual 78, 3) := by decide +kernel
theorem dX11_word_13 : decode cX11_word 13 = .ok (.goto 20, 3) := by decide +kernel
theorem dX11_word_16 : decode cX11_word 16 = .ok (.aload_n 0, 1) := by decide +kernel
theorem dX11_word_17 : decode cX11_word 17 = .ok (.aload_n 0, 1) := by decide +kernel
theorem dX11_word_18 : decode cX11_word 18 = .ok (.iload_n 1, 1) := by decide +kernel
theorem dX11_word_19 : decode cX11_word 19 = .ok (.invokevirtual 253, 3) := by decide +kernel
theorem dX11_word_22 : decode cX11_word 22 = .ok (.invokevirtual 223, 3) := by decide +kernel
theorem dX11_word_25 : decode cX11_word 25 = .ok (.ifCond .eq 7, 3) := by decide +kernel
theorem dX11_word_28 : decode cX11_word 28 = .ok (.iconst 1, 1) := by decide +kernel
theorem dX11_word_29 : decode cX11_word 29 = .ok (.goto 4, 3) := by decide +kernel
theorem dX11_word_32 : decode cX11_word 32 = .ok (.iconst 0, 1) := by decide +kernel
theorem dX11_word_33 : decode cX11_word 33 = .ok (.ireturn, 1) := by decide +kernel
set_option maxRecDepth 20000 in
theorem ggX11_against_X11_without : GoodIn wsX11_against wsX11_without := goodIn_r _ [5, 6, 66, 67, 68, 69, 70, 71, 72, 73, 74, 75, 76, 77, 78, 79, 80, 81, 82, 83, 84, 85, 86, 87, 88, 89, 90, 91, 92, 93] (by decide +kernel) (by decide +kernel)
set_option maxRecDepth 20000 in
theorem gX11_against_X11_without : GoodIn wsX11_against (wsV RX11 253 RX11 yX11_without wsX11_without) := goodIn_app (goodIn_of _ (by decide +kernel)) ggX11_against_X11_without
set_option maxRecDepth 20000 in
theorem ggX11_against_X11_fitsBy : GoodIn wsX11_against wsX11_fitsBy := goodIn_r _ [10, 11, 12, 13, 14, 4, 15, 16, 17, 18, 19, 20, 21, 22, 23, 24, 25, 26, 6, 27, 28, 29, 30, 31, 32, 33, 34, 35, 36, 37, 38, 39, 40, 41, 42, 43, 44, 45, 46, 47, 48, 49, 50, 51, 52, 53, 54, 55, 56, 57, 58, 59, 60, 61, 62, 63, 64, 65, 66, 67, 68, 69, 70, 71, 72, 73, 74, 75, 76, 77, 78, 79, 80, 81, 82, 83, 84, 85, 86, 87, 88, 89, 90, 91, 92, 93] (by decide +kernel) (by decide +kernel)
set_option maxRecDepth 20000 in
theorem gX11_against_X11_fitsBy : GoodIn wsX11_against (wsV RX11 223 RX11 yX11_fitsBy wsX11_fitsBy) := goodIn_app (goodIn_of _ (by decide +kernel)) ggX11_against_X11_fitsBy
theorem dX11_against_0 : decode cX11_against 0 = .ok (.iconst 0, 1) := by decide +kernel
theorem dX11_against_1 : decode cX11_against 1 = .ok (.istore_n 1, 1) := by decide +kernel
theorem dX11_against_2 : decode cX11_against 2 = .ok (.iconst 0, 1) := by decide +kernel
theorem dX11_against_3 : decode cX11_against 3 = .ok (.istore_n 2, 1) := by decide +kernel
theorem dX11_against_4 : decode cX11_against 4 = .ok (.iload_n 2, 1) := by decide +kernel
theorem dX11_against_5 : decode cX11_against 5 = .ok (.iconst 4, 1) := by decide +kernel
theorem dX11_against_6 : decode cX11_against 6 = .ok (.if_icmp .ge 31, 3) := by decide +kernel
theorem dX11_against_9 : decode cX11_against 9 = .ok (.iload_n 1, 1) := by decide +kernel
theorem dX11_against_10 : decode cX11_against 10 = .ok (.aload_n 0, 1) := by decide +kernel
theorem dX11_against_11 : decode cX11_against 11 = .ok (.aload_n 0, 1) := by decide +kernel
theorem dX11_against_12 : decode cX11_against 12 = .ok (.iload_n 2, 1) := by decide +kernel
theorem dX11_against_13 : decode cX11_against 13 = .ok (.invokevirtual 253, 3) := by decide +kernel
theorem dX11_against_16 : decode cX11_against 16 = .ok (.invokevirtual 223, 3) := by decide +kernel
theorem dX11_against_19 : decode cX11_against 19 = .ok (.ifCond .eq 9, 3) := by decide +kernel
theorem dX11_against_22 : decode cX11_against 22 = .ok (.iconst 1, 1) := by decide +kernel
theorem dX11_against_23 : decode cX11_against 23 = .ok (.iload_n 2, 1) := by decide +kernel
theorem dX11_against_24 : decode cX11_against 24 = .ok (.ishl, 1) := by decide +kernel
theorem dX11_against_25 : decode cX11_against 25 = .ok (.goto 4, 3) := by decide +kernel
theorem dX11_against_28 : decode cX11_against 28 = .ok (.iconst 0, 1) := by decide +kernel
theorem dX11_against_29 : decode cX11_against 29 = .ok (.ior, 1) := by decide +kernel
theorem dX11_against_30 : decode cX11_against 30 = .ok (.istore_n 1, 1) := by decide +kernel
theorem dX11_against_31 : decode cX11_against 31 = .ok (.iinc 2 1, 3) := by decide +kernel
theorem dX11_against_34 : decode cX11_against 34 = .ok (.goto (-30), 3) := by decide +kernel
theorem dX11_against_37 : decode cX11_against 37 = .ok (.iload_n 1, 1) := by decide +kernel
theorem dX11_against_38 : decode cX11_against 38 = .ok (.ireturn, 1) := by decide +kernel
set_option maxRecDepth 20000 in
theorem ggX11_watch_X11_isEnd : GoodIn wsX11_watch wsX11_isEnd := goodIn_r _ [6, 1, 7, 8, 5, 9, 15, 16, 17, 18, 19, 20, 21, 22, 23, 24, 25, 26, 27, 28, 29, 30, 31, 32, 33, 34, 35, 36, 37, 38, 39, 40, 41, 42] (by decide +kernel) (by decide +kernel)
set_option maxRecDepth 20000 in
theorem gX11_watch_X11_isEnd : GoodIn wsX11_watch (wsV RX11 217 RX11 yX11_isEnd wsX11_isEnd) := goodIn_app (goodIn_of _ (by decide +kernel)) ggX11_watch_X11_isEnd
set_option maxRecDepth 20000 in
theorem ggX11_watch_X11_in : GoodIn wsX11_watch wsX11_in := goodIn_r _ [9] (by decide +kernel) (by decide +kernel)
set_option maxRecDepth 20000 in
theorem gX11_watch_X11_in : GoodIn wsX11_watch (va_wsS RX11 70 yX11_in wsX11_in) := goodIn_app (goodIn_of _ (by decide +kernel)) ggX11_watch_X11_in
set_option maxRecDepth 20000 in
theorem ggX11_watch_X11_refuses : GoodIn wsX11_watch wsX11_refuses := goodIn_r _ [13, 14, 15, 16, 17, 18, 19, 20, 21, 22, 23, 24, 25, 26, 27, 28, 29, 30, 31, 32, 33, 34, 35, 36, 37, 38, 39, 40, 41, 42] (by decide +kernel) (by decide +kernel)
set_option maxRecDepth 20000 in
theorem gX11_watch_X11_refuses : GoodIn wsX11_watch (wsV RX11 66 RX11 yX11_refuses wsX11_refuses) := goodIn_app (goodIn_of _ (by decide +kernel)) ggX11_watch_X11_refuses
theorem dX11_watch_0 : decode cX11_watch 0 = .ok (.aload_n 0, 1) := by decide +kernel
theorem dX11_watch_1 : decode cX11_watch 1 = .ok (.iload_n 1, 1) := by decide +kernel
theorem dX11_watch_2 : decode cX11_watch 2 = .ok (.invokevirtual 217, 3) := by decide +kernel
theorem dX11_watch_5 : decode cX11_watch 5 = .ok (.ifCond .eq 13, 3) := by decide +kernel
theorem dX11_watch_8 : decode cX11_watch 8 = .ok (.iload_n 2, 1) := by decide +kernel
theorem dX11_watch_9 : decode cX11_watch 9 = .ok (.iconst (-1), 1) := by decide +kernel
theorem dX11_watch_10 : decode cX11_watch 10 = .ok (.bipush 99, 2) := by decide +kernel
theorem dX11_watch_12 : decode cX11_watch 12 = .ok (.invokestatic 70, 3) := by decide +kernel
theorem dX11_watch_15 : decode cX11_watch 15 = .ok (.ifCond .ne 11, 3) := by decide +kernel
theorem dX11_watch_18 : decode cX11_watch 18 = .ok (.aload_n 0, 1) := by decide +kernel
theorem dX11_watch_19 : decode cX11_watch 19 = .ok (.iconst 0, 1) := by decide +kernel
theorem dX11_watch_20 : decode cX11_watch 20 = .ok (.bipush (-10), 2) := by decide +kernel
theorem dX11_watch_22 : decode cX11_watch 22 = .ok (.invokevirtual 66, 3) := by decide +kernel
theorem dX11_watch_25 : decode cX11_watch 25 = .ok (.ireturn, 1) := by decide +kernel
theorem dX11_watch_26 : decode cX11_watch 26 = .ok (.aload_n 0, 1) := by decide +kernel
theorem dX11_watch_27 : decode cX11_watch 27 = .ok (.getfield 7, 3) := by decide +kernel
theorem dX11_watch_30 : decode cX11_watch 30 = .ok (.bipush 46, 2) := by decide +kernel
theorem dX11_watch_32 : decode cX11_watch 32 = .ok (.iload_n 1, 1) := by decide +kernel
theorem dX11_watch_33 : decode cX11_watch 33 = .ok (.iadd, 1) := by decide +kernel
theorem dX11_watch_34 : decode cX11_watch 34 = .ok (.iaload, 1) := by decide +kernel
theorem dX11_watch_35 : decode cX11_watch 35 = .ok (.istore_n 3, 1) := by decide +kernel
theorem dX11_watch_36 : decode cX11_watch 36 = .ok (.aload_n 0, 1) := by decide +kernel
theorem dX11_watch_37 : decode cX11_watch 37 = .ok (.getfield 7, 3) := by decide +kernel
theorem dX11_watch_40 : decode cX11_watch 40 = .ok (.bipush 46, 2) := by decide +kernel
theorem dX11_watch_42 : decode cX11_watch 42 = .ok (.iload_n 1, 1) := by decide +kernel
theorem dX11_watch_43 : decode cX11_watch 43 = .ok (.iadd, 1) := by decide +kernel
