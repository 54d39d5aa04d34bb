set_option maxRecDepth 20000 in
theorem gX12_readLead_X12_peek : GoodIn wsX12_readLead (wsV RX12 100 RX12 yX12_peek wsX12_peek) := goodIn_app (goodIn_of _ (by decide +kernel)) ggX12_readLead_X12_peek
set_option maxRecDepth 20000 in
theorem ggX12_readLead_X12_isBell : GoodIn wsX12_readLead wsX12_isBell := goodIn_r _ [19] (by decide +kernel) (by decide +kernel)
set_option maxRecDepth 20000 in
theorem gX12_readLead_X12_isBell : GoodIn wsX12_readLead (va_wsS RX12 117 yX12_isBell wsX12_isBell) := goodIn_app (goodIn_of _ (by decide +kernel)) ggX12_readLead_X12_isBell
set_option maxRecDepth 20000 in
theorem ggX12_readLead_X12_wrong : GoodIn wsX12_readLead wsX12_wrong := goodIn_r _ [23, 24, 25, 31, 32, 33, 34, 35, 36, 37, 38, 39, 40, 41, 42, 43, 44, 45, 46, 47, 48, 49, 50, 51, 52, 53, 54, 55, 56, 57, 58, 59, 60, 61, 62, 63, 64, 65, 66, 67, 68] (by decide +kernel) (by decide +kernel)
set_option maxRecDepth 20000 in
theorem gX12_readLead_X12_wrong : GoodIn wsX12_readLead (wsV RX12 110 RX12 yX12_wrong wsX12_wrong) := goodIn_app (goodIn_of _ (by decide +kernel)) ggX12_readLead_X12_wrong
set_option maxRecDepth 20000 in
theorem ggX12_readLead_X12_readChange : GoodIn wsX12_readLead wsX12_readChange := goodIn_r _ [29, 1, 30, 3, 11, 12, 13, 9, 14, 15, 16, 20, 21, 22, 23, 24, 25, 17, 18, 19, 31, 32, 33, 34, 35, 36, 37, 38, 39, 40, 41, 42, 43, 44, 45, 46, 47, 48, 49, 50, 51, 52, 53, 54, 55, 56, 57, 58, 59, 60, 61, 62, 63, 64, 65, 66, 67, 68] (by decide +kernel) (by decide +kernel)
set_option maxRecDepth 20000 in
theorem gX12_readLead_X12_readChange : GoodIn wsX12_readLead (wsV RX12 124 RX12 yX12_readChange wsX12_readChange) := goodIn_app (goodIn_of _ (by decide +kernel)) ggX12_readLead_X12_readChange
theorem dX12_readLead_0 : decode cX12_readLead 0 = .ok (.iconst 0, 1) := by decide +kernel
theorem dX12_readLead_1 : decode cX12_readLead 1 = .ok (.istore_n 1, 1) := by decide +kernel
theorem dX12_readLead_2 : decode cX12_readLead 2 = .ok (.iconst 1, 1) := by decide +kernel
theorem dX12_readLead_3 : decode cX12_readLead 3 = .ok (.istore_n 2, 1) := by decide +kernel
theorem dX12_readLead_4 : decode cX12_readLead 4 = .ok (.iload_n 2, 1) := by decide +kernel
theorem dX12_readLead_5 : decode cX12_readLead 5 = .ok (.ifCond .eq 338, 3) := by decide +kernel
theorem dX12_readLead_8 : decode cX12_readLead 8 = .ok (.aload_n 0, 1) := by decide +kernel
theorem dX12_readLead_9 : decode cX12_readLead 9 = .ok (.invokevirtual 121, 3) := by decide +kernel
theorem dX12_readLead_12 : decode cX12_readLead 12 = .ok (.aload_n 0, 1) := by decide +kernel
theorem dX12_readLead_13 : decode cX12_readLead 13 = .ok (.invokevirtual 100, 3) := by decide +kernel
theorem dX12_readLead_16 : decode cX12_readLead 16 = .ok (.bipush 38, 2) := by decide +kernel
theorem dX12_readLead_18 : decode cX12_readLead 18 = .ok (.if_icmp .ne 7, 3) := by decide +kernel
theorem dX12_readLead_21 : decode cX12_readLead 21 = .ok (.iconst 1, 1) := by decide +kernel
theorem dX12_readLead_22 : decode cX12_readLead 22 = .ok (.goto 4, 3) := by decide +kernel
theorem dX12_readLead_25 : decode cX12_readLead 25 = .ok (.iconst 0, 1) := by decide +kernel
theorem dX12_readLead_26 : decode cX12_readLead 26 = .ok (.istore_n 3, 1) := by decide +kernel
theorem dX12_readLead_27 : decode cX12_readLead 27 = .ok (.iload_n 3, 1) := by decide +kernel
theorem dX12_readLead_28 : decode cX12_readLead 28 = .ok (.ifCond .ne 12, 3) := by decide +kernel
theorem dX12_readLead_31 : decode cX12_readLead 31 = .ok (.aload_n 0, 1) := by decide +kernel
theorem dX12_readLead_32 : decode cX12_readLead 32 = .ok (.invokevirtual 100, 3) := by decide +kernel
theorem dX12_readLead_35 : decode cX12_readLead 35 = .ok (.bipush 43, 2) := by decide +kernel
theorem dX12_readLead_37 : decode cX12_readLead 37 = .ok (.if_icmp .ne 17, 3) := by decide +kernel
theorem dX12_readLead_40 : decode cX12_readLead 40 = .ok (.aload_n 0, 1) := by decide +kernel
theorem dX12_readLead_41 : decode cX12_readLead 41 = .ok (.dup, 1) := by decide +kernel
theorem dX12_readLead_42 : decode cX12_readLead 42 = .ok (.getfield 94, 3) := by decide +kernel
theorem dX12_readLead_45 : decode cX12_readLead 45 = .ok (.iconst 1, 1) := by decide +kernel
theorem dX12_readLead_46 : decode cX12_readLead 46 = .ok (.iadd, 1) := by decide +kernel
theorem dX12_readLead_47 : decode cX12_readLead 47 = .ok (.putfield 94, 3) := by decide +kernel
theorem dX12_readLead_50 : decode cX12_readLead 50 = .ok (.aload_n 0, 1) := by decide +kernel
theorem dX12_readLead_51 : decode cX12_readLead 51 = .ok (.invokevirtual 121, 3) := by decide +kernel
theorem dX12_readLead_54 : decode cX12_readLead 54 = .ok (.iconst 0, 1) := by decide +kernel
theorem dX12_readLead_55 : decode cX12_readLead 55 = .ok (.istore 4, 2) := by decide +kernel
theorem dX12_readLead_57 : decode cX12_readLead 57 = .ok (.iconst 0, 1) := by decide +kernel
theorem dX12_readLead_58 : decode cX12_readLead 58 = .ok (.istore 5, 2) := by decide +kernel
theorem dX12_readLead_60 : decode cX12_readLead 60 = .ok (.iconst 1, 1) := by decide +kernel
theorem dX12_readLead_61 : decode cX12_readLead 61 = .ok (.istore 6, 2) := by decide +kernel
theorem dX12_readLead_63 : decode cX12_readLead 63 = .ok (.iload 6, 2) := by decide +kernel
theorem dX12_readLead_65 : decode cX12_readLead 65 = .ok (.ifCond .eq 130, 3) := by decide +kernel
theorem dX12_readLead_68 : decode cX12_readLead 68 = .ok (.aload_n 0, 1) := by decide +kernel
theorem dX12_readLead_69 : decode cX12_readLead 69 = .ok (.invokevirtual 100, 3) := by decide +kernel
theorem dX12_readLead_72 : decode cX12_readLead 72 = .ok (.invokestatic 117, 3) := by decide +kernel
theorem dX12_readLead_75 : decode cX12_readLead 75 = .ok (.istore 7, 2) := by decide +kernel
theorem dX12_readLead_77 : decode cX12_readLead 77 = .ok (.iload 7, 2) := by decide +kernel
theorem dX12_readLead_79 : decode cX12_readLead 79 = .ok (.ifCond .eq 18, 3) := by decide +kernel
theorem dX12_readLead_82 : decode cX12_readLead 82 = .ok (.iload 5, 2) := by decide +kernel
theorem dX12_readLead_84 : decode cX12_readLead 84 = .ok (.ifCond .eq 13, 3) := by decide +kernel
theorem dX12_readLead_87 : decode cX12_readLead 87 = .ok (.aload_n 0, 1) := by decide +kernel
theorem dX12_readLead_88 : decode cX12_readLead 88 = .ok (.iconst 1, 1) := by decide +kernel
theorem dX12_readLead_89 : decode cX12_readLead 89 = .ok (.aload_n 0, 1) := by decide +kernel
theorem dX12_readLead_90 : decode cX12_readLead 90 = .ok (.getfield 94, 3) := by decide +kernel
theorem dX12_readLead_93 : decode cX12_readLead 93 = .ok (.invokevirtual 110, 3) := by decide +kernel
theorem dX12_readLead_96 : decode cX12_readLead 96 = .ok (.ireturn, 1) := by decide +kernel
theorem dX12_readLead_97 : decode cX12_readLead 97 = .ok (.aload_n 0, 1) := by decide +kernel
theorem dX12_readLead_98 : decode cX12_readLead 98 = .ok (.invokevirtual 124, 3) := by decide +kernel
theorem dX12_readLead_101 : decode cX12_readLead 101 = .ok (.ifCond .ne 5, 3) := by decide +kernel
theorem dX12_readLead_104 : decode cX12_readLead 104 = .ok (.iconst 0, 1) := by decide +kernel
theorem dX12_readLead_105 : decode cX12_readLead 105 = .ok (.ireturn, 1) := by decide +kernel
theorem dX12_readLead_106 : decode cX12_readLead 106 = .ok (.iload 7, 2) := by decide +kernel
theorem dX12_readLead_108 : decode cX12_readLead 108 = .ok (.istore 5, 2) := by decide +kernel
theorem dX12_readLead_110 : decode cX12_readLead 110 = .ok (.aload_n 0, 1) := by decide +kernel
theorem dX12_readLead_111 : decode cX12_readLead 111 = .ok (.getfield 33, 3) := by decide +kernel
theorem dX12_readLead_114 : decode cX12_readLead 114 = .ok (.iload 4, 2) := by decide +kernel
theorem dX12_readLead_116 : decode cX12_readLead 116 = .ok (.aload_n 0, 1) := by decide +kernel
theorem dX12_readLead_117 : decode cX12_readLead 117 = .ok (.getfield 114, 3) := by decide +kernel
theorem dX12_readLead_120 : decode cX12_readLead 120 = .ok (.iastore, 1) := by decide +kernel
theorem dX12_readLead_121 : decode cX12_readLead 121 = .ok (.iinc 4 1, 3) := by decide +kernel
theorem dX12_readLead_124 : decode cX12_readLead 124 = .ok (.aload_n 0, 1) := by decide +kernel
theorem dX12_readLead_125 : decode cX12_readLead 125 = .ok (.invokevirtual 121, 3) := by decide +kernel
theorem dX12_readLead_128 : decode cX12_readLead 128 = .ok (.aload_n 0, 1) := by decide +kernel
theorem dX12_readLead_129 : decode cX12_readLead 129 = .ok (.invokevirtual 100, 3) := by decide +kernel
theorem dX12_readLead_132 : decode cX12_readLead 132 = .ok (.bipush 46, 2) := by decide +kernel
theorem dX12_readLead_134 : decode cX12_readLead 134 = .ok (.if_icmp .ne 23, 3) := by decide +kernel
theorem dX12_readLead_137 : decode cX12_readLead 137 = .ok (.aload_n 0, 1) := by decide +kernel
theorem dX12_readLead_138 : decode cX12_readLead 138 = .ok (.dup, 1) := by decide +kernel
theorem dX12_readLead_139 : decode cX12_readLead 139 = .ok (.getfield 94, 3) := by decide +kernel
theorem dX12_readLead_142 : decode cX12_readLead 142 = .ok (.iconst 1, 1) := by decide +kernel
theorem dX12_readLead_143 : decode cX12_readLead 143 = .ok (.iadd, 1) := by decide +kernel
theorem dX12_readLead_144 : decode cX12_readLead 144 = .ok (.putfield 94, 3) := by decide +kernel
theorem dX12_readLead_147 : decode cX12_readLead 147 = .ok (.aload_n 0, 1) := by decide +kernel
theorem dX12_readLead_148 : decode cX12_readLead 148 = .ok (.invokevirtual 121, 3) := by decide +kernel
theorem dX12_readLead_151 : decode cX12_readLead 151 = .ok (.iconst 0, 1) := by decide +kernel
theorem dX12_readLead_152 : decode cX12_readLead 152 = .ok (.istore 5, 2) := by decide +kernel
theorem dX12_readLead_154 : decode cX12_readLead 154 = .ok (.goto (-91), 3) := by decide +kernel
theorem dX12_readLead_157 : decode cX12_readLead 157 = .ok (.aload_n 0, 1) := by decide +kernel
theorem dX12_readLead_158 : decode cX12_readLead 158 = .ok (.invokevirtual 100, 3) := by decide +kernel
theorem dX12_readLead_161 : decode cX12_readLead 161 = .ok (.bipush 120, 2) := by decide +kernel
theorem dX12_readLead_163 : decode cX12_readLead 163 = .ok (.if_icmp .eq 22, 3) := by decide +kernel
theorem dX12_readLead_166 : decode cX12_readLead 166 = .ok (.aload_n 0, 1) := by decide +kernel
theorem dX12_readLead_167 : decode cX12_readLead 167 = .ok (.invokevirtual 100, 3) := by decide +kernel
theorem dX12_readLead_170 : decode cX12_readLead 170 = .ok (.bipush 45, 2) := by decide +kernel
theorem dX12_readLead_172 : decode cX12_readLead 172 = .ok (.if_icmp .eq 13, 3) := by decide +kernel
theorem dX12_readLead_175 : decode cX12_readLead 175 = .ok (.aload_n 0, 1) := by decide +kernel
theorem dX12_readLead_176 : decode cX12_readLead 176 = .ok (.invokevirtual 100, 3) := by decide +kernel
theorem dX12_readLead_179 : decode cX12_readLead 179 = .ok (.invokestatic 117, 3) := by decide +kernel
theorem dX12_readLead_182 : decode cX12_readLead 182 = .ok (.ifCond .eq 7, 3) := by decide +kernel
theorem dX12_readLead_185 : decode cX12_readLead 185 = .ok (.iconst 1, 1) := by decide +kernel
theorem dX12_readLead_186 : decode cX12_readLead 186 = .ok (.goto 4, 3) := by decide +kernel
theorem dX12_readLead_189 : decode cX12_readLead 189 = .ok (.iconst 0, 1) := by decide +kernel
theorem dX12_readLead_190 : decode cX12_readLead 190 = .ok (.istore 6, 2) := by decide +kernel
theorem dX12_readLead_192 : decode cX12_readLead 192 = .ok (.goto (-129), 3) := by decide +kernel
theorem dX12_readLead_195 : decode cX12_readLead 195 = .ok (.aload_n 0, 1) := by decide +kernel
theorem dX12_readLead_196 : decode cX12_readLead 196 = .ok (.invokevirtual 100, 3) := by decide +kernel
theorem dX12_readLead_199 : decode cX12_readLead 199 = .ok (.bipush 44, 2) := by decide +kernel
theorem dX12_readLead_201 : decode cX12_readLead 201 = .ok (.if_icmp .eq 22, 3) := by decide +kernel
theorem dX12_readLead_204 : decode cX12_readLead 204 = .ok (.aload_n 0, 1) := by decide +kernel
theorem dX12_readLead_205 : decode cX12_readLead 205 = .ok (.invokevirtual 100, 3) := by decide +kernel
theorem dX12_readLead_208 : decode cX12_readLead 208 = .ok (.bipush 59, 2) := by decide +kernel
theorem dX12_readLead_210 : decode cX12_readLead 210 = .ok (.if_icmp .eq 13, 3) := by decide +kernel
theorem dX12_readLead_213 : decode cX12_readLead 213 = .ok (.aload_n 0, 1) := by decide +kernel
theorem dX12_readLead_214 : decode cX12_readLead 214 = .ok (.iconst 1, 1) := by decide +kernel
theorem dX12_readLead_215 : decode cX12_readLead 215 = .ok (.aload_n 0, 1) := by decide +kernel
theorem dX12_readLead_216 : decode cX12_readLead 216 = .ok (.getfield 94, 3) := by decide +kernel
theorem dX12_readLead_219 : decode cX12_readLead 219 = .ok (.invokevirtual 110, 3) := by decide +kernel
theorem dX12_readLead_222 : decode cX12_readLead 222 = .ok (.ireturn, 1) := by decide +kernel
theorem dX12_readLead_223 : decode cX12_readLead 223 = .ok (.iload_n 3, 1) := by decide +kernel
theorem dX12_readLead_224 : decode cX12_readLead 224 = .ok (.ifCond .eq 12, 3) := by decide +kernel
theorem dX12_readLead_227 : decode cX12_readLead 227 = .ok (.iconst 2, 1) := by decide +kernel
theorem dX12_readLead_228 : decode cX12_readLead 228 = .ok (.iload 4, 2) := by decide +kernel
theorem dX12_readLead_230 : decode cX12_readLead 230 = .ok (.imul, 1) := by decide +kernel
theorem dX12_readLead_231 : decode cX12_readLead 231 = .ok (.iconst 1, 1) := by decide +kernel
theorem dX12_readLead_232 : decode cX12_readLead 232 = .ok (.isub, 1) := by decide +kernel
theorem dX12_readLead_233 : decode cX12_readLead 233 = .ok (.goto 5, 3) := by decide +kernel
theorem dX12_readLead_236 : decode cX12_readLead 236 = .ok (.iload 4, 2) := by decide +kernel
theorem dX12_readLead_238 : decode cX12_readLead 238 = .ok (.istore 7, 2) := by decide +kernel
theorem dX12_readLead_240 : decode cX12_readLead 240 = .ok (.iload_n 1, 1) := by decide +kernel
theorem dX12_readLead_241 : decode cX12_readLead 241 = .ok (.iload 7, 2) := by decide +kernel
theorem dX12_readLead_243 : decode cX12_readLead 243 = .ok (.iadd, 1) := by decide +kernel
theorem dX12_readLead_244 : decode cX12_readLead 244 = .ok (.bipush 64, 2) := by decide +kernel
theorem dX12_readLead_246 : decode cX12_readLead 246 = .ok (.if_icmp .le 13, 3) := by decide +kernel
theorem dX12_readLead_249 : decode cX12_readLead 249 = .ok (.aload_n 0, 1) := by decide +kernel
theorem dX12_readLead_250 : decode cX12_readLead 250 = .ok (.iconst 3, 1) := by decide +kernel
theorem dX12_readLead_251 : decode cX12_readLead 251 = .ok (.aload_n 0, 1) := by decide +kernel
theorem dX12_readLead_252 : decode cX12_readLead 252 = .ok (.getfield 94, 3) := by decide +kernel
theorem dX12_readLead_255 : decode cX12_readLead 255 = .ok (.invokevirtual 110, 3) := by decide +kernel
theorem dX12_readLead_258 : decode cX12_readLead 258 = .ok (.ireturn, 1) := by decide +kernel
theorem dX12_readLead_259 : decode cX12_readLead 259 = .ok (.iconst 0, 1) := by decide +kernel
theorem dX12_readLead_260 : decode cX12_readLead 260 = .ok (.istore 8, 2) := by decide +kernel
theorem dX12_readLead_262 : decode cX12_readLead 262 = .ok (.iload 8, 2) := by decide +kernel
theorem dX12_readLead_264 : decode cX12_readLead 264 = .ok (.iload 7, 2) := by decide +kernel
theorem dX12_readLead_266 : decode cX12_readLead 266 = .ok (.if_icmp .ge 44, 3) := by decide +kernel
theorem dX12_readLead_269 : decode cX12_readLead 269 = .ok (.aload_n 0, 1) := by decide +kernel
theorem dX12_readLead_270 : decode cX12_readLead 270 = .ok (.getfield 30, 3) := by decide +kernel
theorem dX12_readLead_273 : decode cX12_readLead 273 = .ok (.iload_n 1, 1) := by decide +kernel
theorem dX12_readLead_274 : decode cX12_readLead 274 = .ok (.iload 8, 2) := by decide +kernel
theorem dX12_readLead_276 : decode cX12_readLead 276 = .ok (.iadd, 1) := by decide +kernel
theorem dX12_readLead_277 : decode cX12_readLead 277 = .ok (.aload_n 0, 1) := by decide +kernel
theorem dX12_readLead_278 : decode cX12_readLead 278 = .ok (.getfield 33, 3) := by decide +kernel
theorem dX12_readLead_281 : decode cX12_readLead 281 = .ok (.iload 8, 2) := by decide +kernel
theorem dX12_readLead_283 : decode cX12_readLead 283 = .ok (.iload 4, 2) := by decide +kernel
theorem dX12_readLead_285 : decode cX12_readLead 285 = .ok (.if_icmp .ge 8, 3) := by decide +kernel
theorem dX12_readLead_288 : decode cX12_readLead 288 = .ok (.iload 8, 2) := by decide +kernel
theorem dX12_readLead_290 : decode cX12_readLead 290 = .ok (.goto 12, 3) := by decide +kernel
theorem dX12_readLead_293 : decode cX12_readLead 293 = .ok (.iconst 2, 1) := by decide +kernel
theorem dX12_readLead_294 : decode cX12_readLead 294 = .ok (.iload 4, 2) := by decide +kernel
theorem dX12_readLead_296 : decode cX12_readLead 296 = .ok (.imul, 1) := by decide +kernel
theorem dX12_readLead_297 : decode cX12_readLead 297 = .ok (.iconst 2, 1) := by decide +kernel
theorem dX12_readLead_298 : decode cX12_readLead 298 = .ok (.isub, 1) := by decide +kernel
theorem dX12_readLead_299 : decode cX12_readLead 299 = .ok (.iload 8, 2) := by decide +kernel
theorem dX12_readLead_301 : decode cX12_readLead 301 = .ok (.isub, 1) := by decide +kernel
theorem dX12_readLead_302 : decode cX12_readLead 302 = .ok (.iaload, 1) := by decide +kernel
theorem dX12_readLead_303 : decode cX12_readLead 303 = .ok (.iastore, 1) := by decide +kernel
theorem dX12_readLead_304 : decode cX12_readLead 304 = .ok (.iinc 8 1, 3) := by decide +kernel
theorem dX12_readLead_307 : decode cX12_readLead 307 = .ok (.goto (-45), 3) := by decide +kernel
theorem dX12_readLead_310 : decode cX12_readLead 310 = .ok (.iload_n 1, 1) := by decide +kernel
theorem dX12_readLead_311 : decode cX12_readLead 311 = .ok (.iload 7, 2) := by decide +kernel
theorem dX12_readLead_313 : decode cX12_readLead 313 = .ok (.iadd, 1) := by decide +kernel
theorem dX12_readLead_314 : decode cX12_readLead 314 = .ok (.istore_n 1, 1) := by decide +kernel
theorem dX12_readLead_315 : decode cX12_readLead 315 = .ok (.aload_n 0, 1) := by decide +kernel
theorem dX12_readLead_316 : decode cX12_readLead 316 = .ok (.invokevirtual 100, 3) := by decide +kernel
theorem dX12_readLead_319 : decode cX12_readLead 319 = .ok (.bipush 44, 2) := by decide +kernel
theorem dX12_readLead_321 : decode cX12_readLead 321 = .ok (.if_icmp .ne 7, 3) := by decide +kernel
theorem dX12_readLead_324 : decode cX12_readLead 324 = .ok (.iconst 1, 1) := by decide +kernel
theorem dX12_readLead_325 : decode cX12_readLead 325 = .ok (.goto 4, 3) := by decide +kernel
theorem dX12_readLead_328 : decode cX12_readLead 328 = .ok (.iconst 0, 1) := by decide +kernel
theorem dX12_readLead_329 : decode cX12_readLead 329 = .ok (.istore_n 2, 1) := by decide +kernel
theorem dX12_readLead_330 : decode cX12_readLead 330 = .ok (.aload_n 0, 1) := by decide +kernel
theorem dX12_readLead_331 : decode cX12_readLead 331 = .ok (.dup, 1) := by decide +kernel
theorem dX12_readLead_332 : decode cX12_readLead 332 = .ok (.getfield 94, 3) := by decide +kernel
theorem dX12_readLead_335 : decode cX12_readLead 335 = .ok (.iconst 1, 1) := by decide +kernel
theorem dX12_readLead_336 : decode cX12_readLead 336 = .ok (.iadd, 1) := by decide +kernel
theorem dX12_readLead_337 : decode cX12_readLead 337 = .ok (.putfield 94, 3) := by decide +kernel
theorem dX12_readLead_340 : decode cX12_readLead 340 = .ok (.goto (-336), 3) := by decide +kernel
theorem dX12_readLead_343 : decode cX12_readLead 343 = .ok (.aload_n 0, 1) := by decide +kernel
theorem dX12_readLead_344 : decode cX12_readLead 344 = .ok (.iload_n 1, 1) := by decide +kernel
theorem dX12_readLead_345 : decode cX12_readLead 345 = .ok (.putfield 128, 3) := by decide +kernel
theorem dX12_readLead_348 : decode cX12_readLead 348 = .ok (.iconst 1, 1) := by decide +kernel
theorem dX12_readLead_349 : decode cX12_readLead 349 = .ok (.ireturn, 1) := by decide +kernel
set_option maxRecDepth 20000 in
theorem ggX12_readMethod_X12_readLead : GoodIn wsX12_readMethod wsX12_readLead := goodIn_r _ [9, 3, 10, 2, 1, 11, 12, 13, 14, 8, 15, 16, 17, 18, 19, 4, 20, 21, 22, 23, 24, 25, 26, 27, 28, 29, 30, 31, 32, 33, 34, 35, 36, 37, 38, 39, 40, 41, 42, 43, 44, 45, 46, 47, 48, 49, 50, 51, 52, 53, 54, 55, 56, 57, 58, 59, 60, 61, 62, 63, 64, 65, 66, 67, 68, 69, 70, 71, 72] (by decide +kernel) (by decide +kernel)
set_option maxRecDepth 20000 in
theorem gX12_readMethod_X12_readLead : GoodIn wsX12_readMethod (wsV RX12 131 RX12 yX12_readLead wsX12_readLead) := goodIn_app (goodIn_of _ (by decide +kernel)) ggX12_readMethod_X12_readLead
set_option maxRecDepth 20000 in
theorem ggX12_readMethod_X12_blanks : GoodIn wsX12_readMethod wsX12_blanks := goodIn_r _ [15, 3, 16, 17, 18, 8, 19, 4, 20, 35, 36, 37, 38, 39, 40, 41, 42, 43, 44, 45, 46, 47, 48, 49, 50, 51, 52, 53, 54, 55, 56, 57, 58, 59, 60, 61, 62, 63, 64, 65, 66, 67, 68, 69, 70, 71, 72] (by decide +kernel) (by decide +kernel)
set_option maxRecDepth 20000 in
theorem gX12_readMethod_X12_blanks : GoodIn wsX12_readMethod (wsV RX12 121 RX12 yX12_blanks wsX12_blanks) := goodIn_app (goodIn_of _ (by decide +kernel)) ggX12_readMethod_X12_blanks
set_option maxRecDepth 20000 in
theorem ggX12_readMethod_X12_readChange : GoodIn wsX12_readMethod wsX12_readChange := goodIn_r _ [33, 3, 34, 2, 16, 17, 18, 8, 19, 4, 20, 24, 25, 26, 27, 28, 29, 21, 22, 23, 35, 36, 37, 38, 39, 40, 41, 42, 43, 44, 45, 46, 47, 48, 49, 50, 51, 52, 53, 54, 55, 56, 57, 58, 59, 60, 61, 62, 63, 64, 65, 66, 67, 68, 69, 70, 71, 72] (by decide +kernel) (by decide +kernel)
set_option maxRecDepth 20000 in
theorem gX12_readMethod_X12_readChange : GoodIn wsX12_readMethod (wsV RX12 124 RX12 yX12_readChange wsX12_readChange) := goodIn_app (goodIn_of _ (by decide +kernel)) ggX12_readMethod_X12_readChange
set_option maxRecDepth 20000 in
theorem ggX12_readMethod_X12_peek : GoodIn wsX12_readMethod wsX12_peek := goodIn_r _ [19, 3, 4, 20, 35, 36, 37, 38, 39, 40, 41, 42, 43, 44, 45, 46, 47, 48, 49, 50, 51, 52, 53, 54, 55, 56, 57, 58, 59, 60, 61, 62, 63, 64, 65, 66, 67, 68, 69, 70, 71, 72] (by decide +kernel) (by decide +kernel)
set_option maxRecDepth 20000 in
theorem gX12_readMethod_X12_peek : GoodIn wsX12_readMethod (wsV RX12 100 RX12 yX12_peek wsX12_peek) := goodIn_app (goodIn_of _ (by decide +kernel)) ggX12_readMethod_X12_peek
set_option maxRecDepth 20000 in
theorem ggX12_readMethod_X12_wrong : GoodIn wsX12_readMethod wsX12_wrong := goodIn_r _ [27, 28, 29, 35, 36, 37, 38, 39, 40, 41, 42, 43, 44, 45, 46, 47, 48, 49, 50, 51, 52, 53, 54, 55, 56, 57, 58, 59, 60, 61, 62, 63, 64, 65, 66, 67, 68, 69, 70, 71, 72] (by decide +kernel) (by decide +kernel)
set_option maxRecDepth 20000 in
theorem gX12_readMethod_X12_wrong : GoodIn wsX12_readMethod (wsV RX12 110 RX12 yX12_wrong wsX12_wrong) := goodIn_app (goodIn_of _ (by decide +kernel)) ggX12_readMethod_X12_wrong
theorem dX12_readMethod_0 : decode cX12_readMethod 0 = .ok (.aload_n 0, 1) := by decide +kernel
theorem dX12_readMethod_1 : decode cX12_readMethod 1 = .ok (.invokevirtual 131, 3) := by decide +kernel
theorem dX12_readMethod_4 : decode cX12_readMethod 4 = .ok (.ifCond .ne 5, 3) := by decide +kernel
theorem dX12_readMethod_7 : decode cX12_readMethod 7 = .ok (.iconst 0, 1) := by decide +kernel
theorem dX12_readMethod_8 : decode cX12_readMethod 8 = .ok (.ireturn, 1) := by decide +kernel
theorem dX12_readMethod_9 : decode cX12_readMethod 9 = .ok (.aload_n 0, 1) := by decide +kernel
theorem dX12_readMethod_10 : decode cX12_readMethod 10 = .ok (.invokevirtual 121, 3) := by decide +kernel
theorem dX12_readMethod_13 : decode cX12_readMethod 13 = .ok (.aload_n 0, 1) := by decide +kernel
theorem dX12_readMethod_14 : decode cX12_readMethod 14 = .ok (.invokevirtual 124, 3) := by decide +kernel
theorem dX12_readMethod_17 : decode cX12_readMethod 17 = .ok (.ifCond .ne 5, 3) := by decide +kernel
theorem dX12_readMethod_20 : decode cX12_readMethod 20 = .ok (.iconst 0, 1) := by decide +kernel
theorem dX12_readMethod_21 : decode cX12_readMethod 21 = .ok (.ireturn, 1) := by decide +kernel
theorem dX12_readMethod_22 : decode cX12_readMethod 22 = .ok (.aload_n 0, 1) := by decide +kernel
theorem dX12_readMethod_23 : decode cX12_readMethod 23 = .ok (.getfield 30, 3) := by decide +kernel
theorem dX12_readMethod_26 : decode cX12_readMethod 26 = .ok (.bipush 64, 2) := by decide +kernel
theorem dX12_readMethod_28 : decode cX12_readMethod 28 = .ok (.aload_n 0, 1) := by decide +kernel
theorem dX12_readMethod_29 : decode cX12_readMethod 29 = .ok (.getfield 114, 3) := by decide +kernel
theorem dX12_readMethod_32 : decode cX12_readMethod 32 = .ok (.iastore, 1) := by decide +kernel
theorem dX12_readMethod_33 : decode cX12_readMethod 33 = .ok (.aload_n 0, 1) := by decide +kernel
theorem dX12_readMethod_34 : decode cX12_readMethod 34 = .ok (.invokevirtual 121, 3) := by decide +kernel
theorem dX12_readMethod_37 : decode cX12_readMethod 37 = .ok (.aload_n 0, 1) := by decide +kernel
theorem dX12_readMethod_38 : decode cX12_readMethod 38 = .ok (.invokevirtual 100, 3) := by decide +kernel
theorem dX12_readMethod_41 : decode cX12_readMethod 41 = .ok (.bipush 59, 2) := by decide +kernel
theorem dX12_readMethod_43 : decode cX12_readMethod 43 = .ok (.if_icmp .eq 13, 3) := by decide +kernel
theorem dX12_readMethod_46 : decode cX12_readMethod 46 = .ok (.aload_n 0, 1) := by decide +kernel
theorem dX12_readMethod_47 : decode cX12_readMethod 47 = .ok (.iconst 1, 1) := by decide +kernel
theorem dX12_readMethod_48 : decode cX12_readMethod 48 = .ok (.aload_n 0, 1) := by decide +kernel
theorem dX12_readMethod_49 : decode cX12_readMethod 49 = .ok (.getfield 94, 3) := by decide +kernel
theorem dX12_readMethod_52 : decode cX12_readMethod 52 = .ok (.invokevirtual 110, 3) := by decide +kernel
theorem dX12_readMethod_55 : decode cX12_readMethod 55 = .ok (.ireturn, 1) := by decide +kernel
theorem dX12_readMethod_56 : decode cX12_readMethod 56 = .ok (.aload_n 0, 1) := by decide +kernel
theorem dX12_readMethod_57 : decode cX12_readMethod 57 = .ok (.dup, 1) := by decide +kernel
theorem dX12_readMethod_58 : decode cX12_readMethod 58 = .ok (.getfield 94, 3) := by decide +kernel
theorem dX12_readMethod_61 : decode cX12_readMethod 61 = .ok (.iconst 1, 1) := by decide +kernel
theorem dX12_readMethod_62 : decode cX12_readMethod 62 = .ok (.iadd, 1) := by decide +kernel
theorem dX12_readMethod_63 : decode cX12_readMethod 63 = .ok (.putfield 94, 3) := by decide +kernel
theorem dX12_readMethod_66 : decode cX12_readMethod 66 = .ok (.aload_n 0, 1) := by decide +kernel
theorem dX12_readMethod_67 : decode cX12_readMethod 67 = .ok (.invokevirtual 121, 3) := by decide +kernel
theorem dX12_readMethod_70 : decode cX12_readMethod 70 = .ok (.aload_n 0, 1) := by decide +kernel
theorem dX12_readMethod_71 : decode cX12_readMethod 71 = .ok (.invokevirtual 124, 3) := by decide +kernel
theorem dX12_readMethod_74 : decode cX12_readMethod 74 = .ok (.ifCond .ne 5, 3) := by decide +kernel
theorem dX12_readMethod_77 : decode cX12_readMethod 77 = .ok (.iconst 0, 1) := by decide +kernel
theorem dX12_readMethod_78 : decode cX12_readMethod 78 = .ok (.ireturn, 1) := by decide +kernel
theorem dX12_readMethod_79 : decode cX12_readMethod 79 = .ok (.aload_n 0, 1) := by decide +kernel
theorem dX12_readMethod_80 : decode cX12_readMethod 80 = .ok (.getfield 30, 3) := by decide +kernel
theorem dX12_readMethod_83 : decode cX12_readMethod 83 = .ok (.bipush 65, 2) := by decide +kernel
theorem dX12_readMethod_85 : decode cX12_readMethod 85 = .ok (.aload_n 0, 1) := by decide +kernel
theorem dX12_readMethod_86 : decode cX12_readMethod 86 = .ok (.getfield 114, 3) := by decide +kernel
theorem dX12_readMethod_89 : decode cX12_readMethod 89 = .ok (.iastore, 1) := by decide +kernel
theorem dX12_readMethod_90 : decode cX12_readMethod 90 = .ok (.aload_n 0, 1) := by decide +kernel
theorem dX12_readMethod_91 : decode cX12_readMethod 91 = .ok (.invokevirtual 121, 3) := by decide +kernel
theorem dX12_readMethod_94 : decode cX12_readMethod 94 = .ok (.aload_n 0, 1) := by decide +kernel
theorem dX12_readMethod_95 : decode cX12_readMethod 95 = .ok (.getfield 94, 3) := by decide +kernel
theorem dX12_readMethod_98 : decode cX12_readMethod 98 = .ok (.aload_n 0, 1) := by decide +kernel
theorem dX12_readMethod_99 : decode cX12_readMethod 99 = .ok (.getfield 91, 3) := by decide +kernel
theorem dX12_readMethod_102 : decode cX12_readMethod 102 = .ok (.if_icmp .eq 15, 3) := by decide +kernel
theorem dX12_readMethod_105 : decode cX12_readMethod 105 = .ok (.aload_n 0, 1) := by decide +kernel
theorem dX12_readMethod_106 : decode cX12_readMethod 106 = .ok (.iconst 1, 1) := by decide +kernel
theorem dX12_readMethod_107 : decode cX12_readMethod 107 = .ok (.aload_n 0, 1) := by decide +kernel
theorem dX12_readMethod_108 : decode cX12_readMethod 108 = .ok (.getfield 94, 3) := by decide +kernel
theorem dX12_readMethod_111 : decode cX12_readMethod 111 = .ok (.invokevirtual 110, 3) := by decide +kernel
theorem dX12_readMethod_114 : decode cX12_readMethod 114 = .ok (.ifCond .eq 7, 3) := by decide +kernel
theorem dX12_readMethod_117 : decode cX12_readMethod 117 = .ok (.iconst 1, 1) := by decide +kernel
theorem dX12_readMethod_118 : decode cX12_readMethod 118 = .ok (.goto 4, 3) := by decide +kernel
theorem dX12_readMethod_121 : decode cX12_readMethod 121 = .ok (.iconst 0, 1) := by decide +kernel
theorem dX12_readMethod_122 : decode cX12_readMethod 122 = .ok (.ireturn, 1) := by decide +kernel
set_option maxRecDepth 20000 in
theorem ggX12_method_X12_throwsIf : GoodIn wsX12_method wsX12_throwsIf := goodIn_r _ [11, 12, 52, 53, 54, 55, 56, 57, 58, 59, 60, 61, 62, 63, 64, 65, 66, 67, 68, 69, 70, 71, 72, 73, 74, 75, 76, 77, 78, 79, 80, 81, 82, 83, 84, 85, 86, 87, 88, 89] (by decide +kernel) (by decide +kernel)
set_option maxRecDepth 20000 in
theorem gX12_method_X12_throwsIf : GoodIn wsX12_method (wsV RX12 134 RX12 yX12_throwsIf wsX12_throwsIf) := goodIn_app (goodIn_of _ (by decide +kernel)) ggX12_method_X12_throwsIf
set_option maxRecDepth 20000 in
theorem ggX12_method_X12_open : GoodIn wsX12_method wsX12_open := goodIn_r _ [16, 17, 18, 19, 20, 52, 53, 54, 55, 56, 57, 58, 59, 60, 61, 62, 63, 64, 65, 66, 67, 68, 69, 70, 71, 72, 73, 74, 75, 76, 77, 78, 79, 80, 81, 82, 83, 84, 85, 86, 87, 88, 89] (by decide +kernel) (by decide +kernel)
set_option maxRecDepth 20000 in
theorem gX12_method_X12_open : GoodIn wsX12_method (wsV RX12 138 RX12 yX12_open wsX12_open) := goodIn_app (goodIn_of _ (by decide +kernel)) ggX12_method_X12_open
set_option maxRecDepth 20000 in
theorem ggX12_method_X12_readMethod : GoodIn wsX12_method wsX12_readMethod := goodIn_r _ [24, 5, 25, 19, 18, 26, 27, 28, 10, 29, 30, 3, 31, 32, 33, 34, 35, 36, 37, 38, 39, 40, 41, 42, 43, 44, 45, 46, 20, 1, 47, 48, 49, 50, 51, 52, 53, 54, 55, 56, 57, 58, 59, 60, 61, 62, 63, 64, 65, 66, 67, 68, 69, 70, 71, 72, 73, 74, 75, 76, 77, 78, 79, 80, 81, 82, 83, 84, 85, 86, 87, 88, 89] (by decide +kernel) (by decide +kernel)
set_option maxRecDepth 20000 in
theorem gX12_method_X12_readMethod : GoodIn wsX12_method (wsV RX12 141 RX12 yX12_readMethod wsX12_readMethod) := goodIn_app (goodIn_of _ (by decide +kernel)) ggX12_method_X12_readMethod
theorem dX12_method_0 : decode cX12_method 0 = .ok (.aload_n 0, 1) := by decide +kernel
theorem dX12_method_1 : decode cX12_method 1 = .ok (.iload_n 1, 1) := by decide +kernel
theorem dX12_method_2 : decode cX12_method 2 = .ok (.ifCond .lt 9, 3) := by decide +kernel
theorem dX12_method_5 : decode cX12_method 5 = .ok (.iload_n 1, 1) := by decide +kernel
theorem dX12_method_6 : decode cX12_method 6 = .ok (.bipush 6, 2) := by decide +kernel
theorem dX12_method_8 : decode cX12_method 8 = .ok (.if_icmp .lt 7, 3) := by decide +kernel
theorem dX12_method_11 : decode cX12_method 11 = .ok (.iconst 1, 1) := by decide +kernel
theorem dX12_method_12 : decode cX12_method 12 = .ok (.goto 4, 3) := by decide +kernel
theorem dX12_method_15 : decode cX12_method 15 = .ok (.iconst 0, 1) := by decide +kernel
theorem dX12_method_16 : decode cX12_method 16 = .ok (.iconst 1, 1) := by decide +kernel
theorem dX12_method_17 : decode cX12_method 17 = .ok (.invokevirtual 134, 3) := by decide +kernel
theorem dX12_method_20 : decode cX12_method 20 = .ok (.ifCond .eq 5, 3) := by decide +kernel
theorem dX12_method_23 : decode cX12_method 23 = .ok (.iconst 0, 1) := by decide +kernel
theorem dX12_method_24 : decode cX12_method 24 = .ok (.ireturn, 1) := by decide +kernel
theorem dX12_method_25 : decode cX12_method 25 = .ok (.aload_n 0, 1) := by decide +kernel
theorem dX12_method_26 : decode cX12_method 26 = .ok (.invokevirtual 138, 3) := by decide +kernel
theorem dX12_method_29 : decode cX12_method 29 = .ok (.aload_n 0, 1) := by decide +kernel
theorem dX12_method_30 : decode cX12_method 30 = .ok (.invokevirtual 141, 3) := by decide +kernel
theorem dX12_method_33 : decode cX12_method 33 = .ok (.ifCond .ne 10, 3) := by decide +kernel
theorem dX12_method_36 : decode cX12_method 36 = .ok (.iconst (-1), 1) := by decide +kernel
theorem dX12_method_37 : decode cX12_method 37 = .ok (.aload_n 0, 1) := by decide +kernel
theorem dX12_method_38 : decode cX12_method 38 = .ok (.getfield 104, 3) := by decide +kernel
theorem dX12_method_41 : decode cX12_method 41 = .ok (.isub, 1) := by decide +kernel
theorem dX12_method_42 : decode cX12_method 42 = .ok (.ireturn, 1) := by decide +kernel
theorem dX12_method_43 : decode cX12_method 43 = .ok (.aload_n 0, 1) := by decide +kernel
theorem dX12_method_44 : decode cX12_method 44 = .ok (.getfield 13, 3) := by decide +kernel
theorem dX12_method_47 : decode cX12_method 47 = .ok (.iload_n 1, 1) := by decide +kernel
theorem dX12_method_48 : decode cX12_method 48 = .ok (.aload_n 0, 1) := by decide +kernel
theorem dX12_method_49 : decode cX12_method 49 = .ok (.getfield 128, 3) := by decide +kernel
theorem dX12_method_52 : decode cX12_method 52 = .ok (.iastore, 1) := by decide +kernel
theorem dX12_method_53 : decode cX12_method 53 = .ok (.iconst 0, 1) := by decide +kernel
theorem dX12_method_54 : decode cX12_method 54 = .ok (.istore_n 2, 1) := by decide +kernel
theorem dX12_method_55 : decode cX12_method 55 = .ok (.iload_n 2, 1) := by decide +kernel
theorem dX12_method_56 : decode cX12_method 56 = .ok (.bipush 66, 2) := by decide +kernel
theorem dX12_method_58 : decode cX12_method 58 = .ok (.if_icmp .ge 26, 3) := by decide +kernel
theorem dX12_method_61 : decode cX12_method 61 = .ok (.aload_n 0, 1) := by decide +kernel
theorem dX12_method_62 : decode cX12_method 62 = .ok (.getfield 17, 3) := by decide +kernel
theorem dX12_method_65 : decode cX12_method 65 = .ok (.bipush 66, 2) := by decide +kernel
theorem dX12_method_67 : decode cX12_method 67 = .ok (.iload_n 1, 1) := by decide +kernel
theorem dX12_method_68 : decode cX12_method 68 = .ok (.imul, 1) := by decide +kernel
theorem dX12_method_69 : decode cX12_method 69 = .ok (.iload_n 2, 1) := by decide +kernel
theorem dX12_method_70 : decode cX12_method 70 = .ok (.iadd, 1) := by decide +kernel
theorem dX12_method_71 : decode cX12_method 71 = .ok (.aload_n 0, 1) := by decide +kernel
theorem dX12_method_72 : decode cX12_method 72 = .ok (.getfield 30, 3) := by decide +kernel
theorem dX12_method_75 : decode cX12_method 75 = .ok (.iload_n 2, 1) := by decide +kernel
theorem dX12_method_76 : decode cX12_method 76 = .ok (.iaload, 1) := by decide +kernel
theorem dX12_method_77 : decode cX12_method 77 = .ok (.iastore, 1) := by decide +kernel
theorem dX12_method_78 : decode cX12_method 78 = .ok (.iinc 2 1, 3) := by decide +kernel
theorem dX12_method_81 : decode cX12_method 81 = .ok (.goto (-26), 3) := by decide +kernel
theorem dX12_method_84 : decode cX12_method 84 = .ok (.aload_n 0, 1) := by decide +kernel
theorem dX12_method_85 : decode cX12_method 85 = .ok (.iconst 0, 1) := by decide +kernel
theorem dX12_method_86 : decode cX12_method 86 = .ok (.putfield 107, 3) := by decide +kernel
theorem dX12_method_89 : decode cX12_method 89 = .ok (.aload_n 0, 1) := by decide +kernel
theorem dX12_method_90 : decode cX12_method 90 = .ok (.getfield 128, 3) := by decide +kernel
theorem dX12_method_93 : decode cX12_method 93 = .ok (.ireturn, 1) := by decide +kernel
theorem dX12_fault_0 : decode cX12_fault 0 = .ok (.aload_n 0, 1) := by decide +kernel
theorem dX12_fault_1 : decode cX12_fault 1 = .ok (.iconst 0, 1) := by decide +kernel
theorem dX12_fault_2 : decode cX12_fault 2 = .ok (.putfield 81, 3) := by decide +kernel
theorem dX12_fault_5 : decode cX12_fault 5 = .ok (.aload_n 0, 1) := by decide +kernel
theorem dX12_fault_6 : decode cX12_fault 6 = .ok (.getfield 97, 3) := by decide +kernel
theorem dX12_fault_9 : decode cX12_fault 9 = .ok (.ireturn, 1) := by decide +kernel
theorem dX12_isTold_0 : decode cX12_isTold 0 = .ok (.iload_n 1, 1) := by decide +kernel
theorem dX12_isTold_1 : decode cX12_isTold 1 = .ok (.ifCond .lt 22, 3) := by decide +kernel
theorem dX12_isTold_4 : decode cX12_isTold 4 = .ok (.iload_n 1, 1) := by decide +kernel
theorem dX12_isTold_5 : decode cX12_isTold 5 = .ok (.bipush 6, 2) := by decide +kernel
theorem dX12_isTold_7 : decode cX12_isTold 7 = .ok (.if_icmp .ge 16, 3) := by decide +kernel
theorem dX12_isTold_10 : decode cX12_isTold 10 = .ok (.aload_n 0, 1) := by decide +kernel
theorem dX12_isTold_11 : decode cX12_isTold 11 = .ok (.getfield 13, 3) := by decide +kernel
theorem dX12_isTold_14 : decode cX12_isTold 14 = .ok (.iload_n 1, 1) := by decide +kernel
theorem dX12_isTold_15 : decode cX12_isTold 15 = .ok (.iaload, 1) := by decide +kernel
theorem dX12_isTold_16 : decode cX12_isTold 16 = .ok (.ifCond .le 7, 3) := by decide +kernel
theorem dX12_isTold_19 : decode cX12_isTold 19 = .ok (.iconst 1, 1) := by decide +kernel
theorem dX12_isTold_20 : decode cX12_isTold 20 = .ok (.goto 4, 3) := by decide +kernel
theorem dX12_isTold_23 : decode cX12_isTold 23 = .ok (.iconst 0, 1) := by decide +kernel
theorem dX12_isTold_24 : decode cX12_isTold 24 = .ok (.ireturn, 1) := by decide +kernel
set_option maxRecDepth 20000 in
theorem ggX12_readUnits_X12_blanks : GoodIn wsX12_readUnits wsX12_blanks := goodIn_r _ [12, 2, 13, 14, 15, 11, 16, 3, 17, 32, 33, 34, 35, 36, 37, 38, 39, 40, 41, 42, 43, 44, 45, 46, 47, 48, 49, 50, 51, 52, 53, 54, 55, 56, 57, 58, 59, 60, 61, 62, 63, 64, 65, 66, 67, 68, 69] (by decide +kernel) (by decide +kernel)
set_option maxRecDepth 20000 in
theorem gX12_readUnits_X12_blanks : GoodIn wsX12_readUnits (wsV RX12 121 RX12 yX12_blanks wsX12_blanks) := goodIn_app (goodIn_of _ (by decide +kernel)) ggX12_readUnits_X12_blanks
set_option maxRecDepth 20000 in
theorem ggX12_readUnits_X12_peek : GoodIn wsX12_readUnits wsX12_peek := goodIn_r _ [16, 2, 3, 17, 32, 33, 34, 35, 36, 37, 38, 39, 40, 41, 42, 43, 44, 45, 46, 47, 48, 49, 50, 51, 52, 53, 54, 55, 56, 57, 58, 59, 60, 61, 62, 63, 64, 65, 66, 67, 68, 69] (by decide +kernel) (by decide +kernel)
set_option maxRecDepth 20000 in
theorem gX12_readUnits_X12_peek : GoodIn wsX12_readUnits (wsV RX12 100 RX12 yX12_peek wsX12_peek) := goodIn_app (goodIn_of _ (by decide +kernel)) ggX12_readUnits_X12_peek
set_option maxRecDepth 20000 in
theorem ggX12_readUnits_X12_isDigit : GoodIn wsX12_readUnits wsX12_isDigit := goodIn_r _ [20] (by decide +kernel) (by decide +kernel)
set_option maxRecDepth 20000 in
theorem gX12_readUnits_X12_isDigit : GoodIn wsX12_readUnits (va_wsS RX12 147 yX12_isDigit wsX12_isDigit) := goodIn_app (goodIn_of _ (by decide +kernel)) ggX12_readUnits_X12_isDigit
set_option maxRecDepth 20000 in
theorem ggX12_readUnits_X12_wrong : GoodIn wsX12_readUnits wsX12_wrong := goodIn_r _ [24, 25, 26, 32, 33, 34, 35, 36, 37, 38, 39, 40, 41, 42, 43, 44, 45, 46, 47, 48, 49, 50, 51, 52, 53, 54, 55, 56, 57, 58, 59, 60, 61, 62, 63, 64, 65, 66, 67, 68, 69] (by decide +kernel) (by decide +kernel)
set_option maxRecDepth 20000 in
theorem gX12_readUnits_X12_wrong : GoodIn wsX12_readUnits (wsV RX12 110 RX12 yX12_wrong wsX12_wrong) := goodIn_app (goodIn_of _ (by decide +kernel)) ggX12_readUnits_X12_wrong
set_option maxRecDepth 20000 in
theorem ggX12_readUnits_X12_isTold : GoodIn wsX12_readUnits wsX12_isTold := goodIn_r _ [30, 31, 32, 33, 34, 35, 36, 37, 38, 39, 40, 41, 42, 43, 44, 45, 46, 47, 48, 49, 50, 51, 52, 53, 54, 55, 56, 57, 58, 59, 60, 61, 62, 63, 64, 65, 66, 67, 68, 69] (by decide +kernel) (by decide +kernel)
set_option maxRecDepth 20000 in
theorem gX12_readUnits_X12_isTold : GoodIn wsX12_readUnits (wsV RX12 150 RX12 yX12_isTold wsX12_isTold) := goodIn_app (goodIn_of _ (by decide +kernel)) ggX12_readUnits_X12_isTold
theorem dX12_readUnits_0 : decode cX12_readUnits 0 = .ok (.iconst 0, 1) := by decide +kernel
theorem dX12_readUnits_1 : decode cX12_readUnits 1 = .ok (.istore_n 1, 1) := by decide +kernel
theorem dX12_readUnits_2 : decode cX12_readUnits 2 = .ok (.iconst 0, 1) := by decide +kernel
theorem dX12_readUnits_3 : decode cX12_readUnits 3 = .ok (.istore_n 2, 1) := by decide +kernel
theorem dX12_readUnits_4 : decode cX12_readUnits 4 = .ok (.iconst 1, 1) := by decide +kernel
theorem dX12_readUnits_5 : decode cX12_readUnits 5 = .ok (.istore_n 3, 1) := by decide +kernel
theorem dX12_readUnits_6 : decode cX12_readUnits 6 = .ok (.aload_n 0, 1) := by decide +kernel
theorem dX12_readUnits_7 : decode cX12_readUnits 7 = .ok (.iconst 0, 1) := by decide +kernel
theorem dX12_readUnits_8 : decode cX12_readUnits 8 = .ok (.putfield 144, 3) := by decide +kernel
theorem dX12_readUnits_11 : decode cX12_readUnits 11 = .ok (.aload_n 0, 1) := by decide +kernel
theorem dX12_readUnits_12 : decode cX12_readUnits 12 = .ok (.invokevirtual 121, 3) := by decide +kernel
theorem dX12_readUnits_15 : decode cX12_readUnits 15 = .ok (.aload_n 0, 1) := by decide +kernel
theorem dX12_readUnits_16 : decode cX12_readUnits 16 = .ok (.getfield 94, 3) := by decide +kernel
theorem dX12_readUnits_19 : decode cX12_readUnits 19 = .ok (.aload_n 0, 1) := by decide +kernel
theorem dX12_readUnits_20 : decode cX12_readUnits 20 = .ok (.getfield 91, 3) := by decide +kernel
theorem dX12_readUnits_23 : decode cX12_readUnits 23 = .ok (.if_icmp .lt 11, 3) := by decide +kernel
theorem dX12_readUnits_26 : decode cX12_readUnits 26 = .ok (.iload_n 3, 1) := by decide +kernel
theorem dX12_readUnits_27 : decode cX12_readUnits 27 = .ok (.ifCond .ne 7, 3) := by decide +kernel
theorem dX12_readUnits_30 : decode cX12_readUnits 30 = .ok (.iload_n 1, 1) := by decide +kernel
theorem dX12_readUnits_31 : decode cX12_readUnits 31 = .ok (.ifCond .le 374, 3) := by decide +kernel
theorem dX12_readUnits_34 : decode cX12_readUnits 34 = .ok (.aload_n 0, 1) := by decide +kernel
theorem dX12_readUnits_35 : decode cX12_readUnits 35 = .ok (.getfield 94, 3) := by decide +kernel
theorem dX12_readUnits_38 : decode cX12_readUnits 38 = .ok (.istore 4, 2) := by decide +kernel
theorem dX12_readUnits_40 : decode cX12_readUnits 40 = .ok (.iconst 1, 1) := by decide +kernel
theorem dX12_readUnits_41 : decode cX12_readUnits 41 = .ok (.istore 5, 2) := by decide +kernel
theorem dX12_readUnits_43 : decode cX12_readUnits 43 = .ok (.aload_n 0, 1) := by decide +kernel
theorem dX12_readUnits_44 : decode cX12_readUnits 44 = .ok (.invokevirtual 100, 3) := by decide +kernel
theorem dX12_readUnits_47 : decode cX12_readUnits 47 = .ok (.invokestatic 147, 3) := by decide +kernel
theorem dX12_readUnits_50 : decode cX12_readUnits 50 = .ok (.ifCond .eq 86, 3) := by decide +kernel
theorem dX12_readUnits_53 : decode cX12_readUnits 53 = .ok (.iconst 0, 1) := by decide +kernel
theorem dX12_readUnits_54 : decode cX12_readUnits 54 = .ok (.istore 5, 2) := by decide +kernel
theorem dX12_readUnits_56 : decode cX12_readUnits 56 = .ok (.aload_n 0, 1) := by decide +kernel
theorem dX12_readUnits_57 : decode cX12_readUnits 57 = .ok (.invokevirtual 100, 3) := by decide +kernel
theorem dX12_readUnits_60 : decode cX12_readUnits 60 = .ok (.invokestatic 147, 3) := by decide +kernel
theorem dX12_readUnits_63 : decode cX12_readUnits 63 = .ok (.ifCond .eq 44, 3) := by decide +kernel
theorem dX12_readUnits_66 : decode cX12_readUnits 66 = .ok (.iload 5, 2) := by decide +kernel
theorem dX12_readUnits_68 : decode cX12_readUnits 68 = .ok (.sipush 1000, 3) := by decide +kernel
theorem dX12_readUnits_71 : decode cX12_readUnits 71 = .ok (.if_icmp .ge 19, 3) := by decide +kernel
theorem dX12_readUnits_74 : decode cX12_readUnits 74 = .ok (.bipush 10, 2) := by decide +kernel
theorem dX12_readUnits_76 : decode cX12_readUnits 76 = .ok (.iload 5, 2) := by decide +kernel
theorem dX12_readUnits_78 : decode cX12_readUnits 78 = .ok (.imul, 1) := by decide +kernel
theorem dX12_readUnits_79 : decode cX12_readUnits 79 = .ok (.aload_n 0, 1) := by decide +kernel
theorem dX12_readUnits_80 : decode cX12_readUnits 80 = .ok (.invokevirtual 100, 3) := by decide +kernel
theorem dX12_readUnits_83 : decode cX12_readUnits 83 = .ok (.iadd, 1) := by decide +kernel
theorem dX12_readUnits_84 : decode cX12_readUnits 84 = .ok (.bipush 48, 2) := by decide +kernel
theorem dX12_readUnits_86 : decode cX12_readUnits 86 = .ok (.isub, 1) := by decide +kernel
theorem dX12_readUnits_87 : decode cX12_readUnits 87 = .ok (.goto 5, 3) := by decide +kernel
theorem dX12_readUnits_90 : decode cX12_readUnits 90 = .ok (.iload 5, 2) := by decide +kernel
theorem dX12_readUnits_92 : decode cX12_readUnits 92 = .ok (.istore 5, 2) := by decide +kernel
theorem dX12_readUnits_94 : decode cX12_readUnits 94 = .ok (.aload_n 0, 1) := by decide +kernel
theorem dX12_readUnits_95 : decode cX12_readUnits 95 = .ok (.dup, 1) := by decide +kernel
theorem dX12_readUnits_96 : decode cX12_readUnits 96 = .ok (.getfield 94, 3) := by decide +kernel
theorem dX12_readUnits_99 : decode cX12_readUnits 99 = .ok (.iconst 1, 1) := by decide +kernel
theorem dX12_readUnits_100 : decode cX12_readUnits 100 = .ok (.iadd, 1) := by decide +kernel
theorem dX12_readUnits_101 : decode cX12_readUnits 101 = .ok (.putfield 94, 3) := by decide +kernel
theorem dX12_readUnits_104 : decode cX12_readUnits 104 = .ok (.goto (-48), 3) := by decide +kernel
theorem dX12_readUnits_107 : decode cX12_readUnits 107 = .ok (.aload_n 0, 1) := by decide +kernel
theorem dX12_readUnits_108 : decode cX12_readUnits 108 = .ok (.getfield 94, 3) := by decide +kernel
theorem dX12_readUnits_111 : decode cX12_readUnits 111 = .ok (.iload 4, 2) := by decide +kernel
theorem dX12_readUnits_113 : decode cX12_readUnits 113 = .ok (.isub, 1) := by decide +kernel
theorem dX12_readUnits_114 : decode cX12_readUnits 114 = .ok (.iconst 2, 1) := by decide +kernel
theorem dX12_readUnits_115 : decode cX12_readUnits 115 = .ok (.if_icmp .gt 9, 3) := by decide +kernel
theorem dX12_readUnits_118 : decode cX12_readUnits 118 = .ok (.iload 5, 2) := by decide +kernel
theorem dX12_readUnits_120 : decode cX12_readUnits 120 = .ok (.iconst 2, 1) := by decide +kernel
theorem dX12_readUnits_121 : decode cX12_readUnits 121 = .ok (.if_icmp .ge 11, 3) := by decide +kernel
theorem dX12_readUnits_124 : decode cX12_readUnits 124 = .ok (.aload_n 0, 1) := by decide +kernel
theorem dX12_readUnits_125 : decode cX12_readUnits 125 = .ok (.iconst 2, 1) := by decide +kernel
theorem dX12_readUnits_126 : decode cX12_readUnits 126 = .ok (.iload 4, 2) := by decide +kernel
theorem dX12_readUnits_128 : decode cX12_readUnits 128 = .ok (.invokevirtual 110, 3) := by decide +kernel
theorem dX12_readUnits_131 : decode cX12_readUnits 131 = .ok (.ireturn, 1) := by decide +kernel
theorem dX12_readUnits_132 : decode cX12_readUnits 132 = .ok (.aload_n 0, 1) := by decide +kernel
theorem dX12_readUnits_133 : decode cX12_readUnits 133 = .ok (.invokevirtual 121, 3) := by decide +kernel
theorem dX12_readUnits_136 : decode cX12_readUnits 136 = .ok (.aload_n 0, 1) := by decide +kernel
theorem dX12_readUnits_137 : decode cX12_readUnits 137 = .ok (.invokevirtual 100, 3) := by decide +kernel
theorem dX12_readUnits_140 : decode cX12_readUnits 140 = .ok (.istore 6, 2) := by decide +kernel
theorem dX12_readUnits_142 : decode cX12_readUnits 142 = .ok (.iload 5, 2) := by decide +kernel
theorem dX12_readUnits_144 : decode cX12_readUnits 144 = .ok (.iconst 1, 1) := by decide +kernel
theorem dX12_readUnits_145 : decode cX12_readUnits 145 = .ok (.if_icmp .le 7, 3) := by decide +kernel
theorem dX12_readUnits_148 : decode cX12_readUnits 148 = .ok (.iconst 1, 1) := by decide +kernel
theorem dX12_readUnits_149 : decode cX12_readUnits 149 = .ok (.goto 4, 3) := by decide +kernel
theorem dX12_readUnits_152 : decode cX12_readUnits 152 = .ok (.iconst 0, 1) := by decide +kernel
theorem dX12_readUnits_153 : decode cX12_readUnits 153 = .ok (.istore 7, 2) := by decide +kernel
theorem dX12_readUnits_155 : decode cX12_readUnits 155 = .ok (.iload 6, 2) := by decide +kernel
theorem dX12_readUnits_157 : decode cX12_readUnits 157 = .ok (.bipush 41, 2) := by decide +kernel
theorem dX12_readUnits_159 : decode cX12_readUnits 159 = .ok (.if_icmp .ne 52, 3) := by decide +kernel
theorem dX12_readUnits_162 : decode cX12_readUnits 162 = .ok (.iload_n 3, 1) := by decide +kernel
theorem dX12_readUnits_163 : decode cX12_readUnits 163 = .ok (.ifCond .ne 48, 3) := by decide +kernel
theorem dX12_readUnits_166 : decode cX12_readUnits 166 = .ok (.iload 7, 2) := by decide +kernel
theorem dX12_readUnits_168 : decode cX12_readUnits 168 = .ok (.ifCond .ne 43, 3) := by decide +kernel
theorem dX12_readUnits_171 : decode cX12_readUnits 171 = .ok (.iload_n 1, 1) := by decide +kernel
theorem dX12_readUnits_172 : decode cX12_readUnits 172 = .ok (.ifCond .le 39, 3) := by decide +kernel
theorem dX12_readUnits_175 : decode cX12_readUnits 175 = .ok (.iinc 1 (-1), 3) := by decide +kernel
theorem dX12_readUnits_178 : decode cX12_readUnits 178 = .ok (.aload_n 0, 1) := by decide +kernel
theorem dX12_readUnits_179 : decode cX12_readUnits 179 = .ok (.getfield 45, 3) := by decide +kernel
theorem dX12_readUnits_182 : decode cX12_readUnits 182 = .ok (.iload_n 1, 1) := by decide +kernel
theorem dX12_readUnits_183 : decode cX12_readUnits 183 = .ok (.iaload, 1) := by decide +kernel
theorem dX12_readUnits_184 : decode cX12_readUnits 184 = .ok (.istore 8, 2) := by decide +kernel
theorem dX12_readUnits_186 : decode cX12_readUnits 186 = .ok (.aload_n 0, 1) := by decide +kernel
theorem dX12_readUnits_187 : decode cX12_readUnits 187 = .ok (.getfield 42, 3) := by decide +kernel
theorem dX12_readUnits_190 : decode cX12_readUnits 190 = .ok (.iload 8, 2) := by decide +kernel
theorem dX12_readUnits_192 : decode cX12_readUnits 192 = .ok (.aload_n 0, 1) := by decide +kernel
theorem dX12_readUnits_193 : decode cX12_readUnits 193 = .ok (.getfield 144, 3) := by decide +kernel
theorem dX12_readUnits_196 : decode cX12_readUnits 196 = .ok (.iastore, 1) := by decide +kernel
theorem dX12_readUnits_197 : decode cX12_readUnits 197 = .ok (.aload_n 0, 1) := by decide +kernel
theorem dX12_readUnits_198 : decode cX12_readUnits 198 = .ok (.getfield 42, 3) := by decide +kernel
theorem dX12_readUnits_201 : decode cX12_readUnits 201 = .ok (.aload_n 0, 1) := by decide +kernel
theorem dX12_readUnits_202 : decode cX12_readUnits 202 = .ok (.getfield 144, 3) := by decide +kernel
theorem dX12_readUnits_205 : decode cX12_readUnits 205 = .ok (.iload 8, 2) := by decide +kernel
theorem dX12_readUnits_207 : decode cX12_readUnits 207 = .ok (.iastore, 1) := by decide +kernel
theorem dX12_readUnits_208 : decode cX12_readUnits 208 = .ok (.goto 135, 3) := by decide +kernel
theorem dX12_readUnits_211 : decode cX12_readUnits 211 = .ok (.iload 6, 2) := by decide +kernel
theorem dX12_readUnits_213 : decode cX12_readUnits 213 = .ok (.bipush 40, 2) := by decide +kernel
theorem dX12_readUnits_215 : decode cX12_readUnits 215 = .ok (.if_icmp .ne 34, 3) := by decide +kernel
theorem dX12_readUnits_218 : decode cX12_readUnits 218 = .ok (.iload_n 1, 1) := by decide +kernel
theorem dX12_readUnits_219 : decode cX12_readUnits 219 = .ok (.iconst 5, 1) := by decide +kernel
theorem dX12_readUnits_220 : decode cX12_readUnits 220 = .ok (.if_icmp .ne 13, 3) := by decide +kernel
theorem dX12_readUnits_223 : decode cX12_readUnits 223 = .ok (.aload_n 0, 1) := by decide +kernel
theorem dX12_readUnits_224 : decode cX12_readUnits 224 = .ok (.iconst 4, 1) := by decide +kernel
theorem dX12_readUnits_225 : decode cX12_readUnits 225 = .ok (.aload_n 0, 1) := by decide +kernel
theorem dX12_readUnits_226 : decode cX12_readUnits 226 = .ok (.getfield 94, 3) := by decide +kernel
theorem dX12_readUnits_229 : decode cX12_readUnits 229 = .ok (.invokevirtual 110, 3) := by decide +kernel
theorem dX12_readUnits_232 : decode cX12_readUnits 232 = .ok (.ireturn, 1) := by decide +kernel
theorem dX12_readUnits_233 : decode cX12_readUnits 233 = .ok (.aload_n 0, 1) := by decide +kernel
theorem dX12_readUnits_234 : decode cX12_readUnits 234 = .ok (.getfield 45, 3) := by decide +kernel
theorem dX12_readUnits_237 : decode cX12_readUnits 237 = .ok (.iload_n 1, 1) := by decide +kernel
theorem dX12_readUnits_238 : decode cX12_readUnits 238 = .ok (.aload_n 0, 1) := by decide +kernel
theorem dX12_readUnits_239 : decode cX12_readUnits 239 = .ok (.getfield 144, 3) := by decide +kernel
theorem dX12_readUnits_242 : decode cX12_readUnits 242 = .ok (.iastore, 1) := by decide +kernel
theorem dX12_readUnits_243 : decode cX12_readUnits 243 = .ok (.iinc 1 1, 3) := by decide +kernel
theorem dX12_readUnits_246 : decode cX12_readUnits 246 = .ok (.goto 97, 3) := by decide +kernel
theorem dX12_readUnits_249 : decode cX12_readUnits 249 = .ok (.iload 6, 2) := by decide +kernel
theorem dX12_readUnits_251 : decode cX12_readUnits 251 = .ok (.bipush 65, 2) := by decide +kernel
theorem dX12_readUnits_253 : decode cX12_readUnits 253 = .ok (.if_icmp .lt 41, 3) := by decide +kernel
theorem dX12_readUnits_256 : decode cX12_readUnits 256 = .ok (.iload 6, 2) := by decide +kernel
theorem dX12_readUnits_258 : decode cX12_readUnits 258 = .ok (.bipush 70, 2) := by decide +kernel
theorem dX12_readUnits_260 : decode cX12_readUnits 260 = .ok (.if_icmp .gt 34, 3) := by decide +kernel
theorem dX12_readUnits_263 : decode cX12_readUnits 263 = .ok (.aload_n 0, 1) := by decide +kernel
theorem dX12_readUnits_264 : decode cX12_readUnits 264 = .ok (.iload 6, 2) := by decide +kernel
theorem dX12_readUnits_266 : decode cX12_readUnits 266 = .ok (.bipush 65, 2) := by decide +kernel
theorem dX12_readUnits_268 : decode cX12_readUnits 268 = .ok (.isub, 1) := by decide +kernel
theorem dX12_readUnits_269 : decode cX12_readUnits 269 = .ok (.invokevirtual 150, 3) := by decide +kernel
theorem dX12_readUnits_272 : decode cX12_readUnits 272 = .ok (.ifCond .ne 13, 3) := by decide +kernel
theorem dX12_readUnits_275 : decode cX12_readUnits 275 = .ok (.aload_n 0, 1) := by decide +kernel
theorem dX12_readUnits_276 : decode cX12_readUnits 276 = .ok (.iconst 3, 1) := by decide +kernel
theorem dX12_readUnits_277 : decode cX12_readUnits 277 = .ok (.aload_n 0, 1) := by decide +kernel
theorem dX12_readUnits_278 : decode cX12_readUnits 278 = .ok (.getfield 94, 3) := by decide +kernel
theorem dX12_readUnits_281 : decode cX12_readUnits 281 = .ok (.invokevirtual 110, 3) := by decide +kernel
theorem dX12_readUnits_284 : decode cX12_readUnits 284 = .ok (.ireturn, 1) := by decide +kernel
theorem dX12_readUnits_285 : decode cX12_readUnits 285 = .ok (.iload 6, 2) := by decide +kernel
theorem dX12_readUnits_287 : decode cX12_readUnits 287 = .ok (.bipush 65, 2) := by decide +kernel
theorem dX12_readUnits_289 : decode cX12_readUnits 289 = .ok (.isub, 1) := by decide +kernel
theorem dX12_readUnits_290 : decode cX12_readUnits 290 = .ok (.istore_n 2, 1) := by decide +kernel
theorem dX12_readUnits_291 : decode cX12_readUnits 291 = .ok (.goto 52, 3) := by decide +kernel
theorem dX12_readUnits_294 : decode cX12_readUnits 294 = .ok (.iload 6, 2) := by decide +kernel
theorem dX12_readUnits_296 : decode cX12_readUnits 296 = .ok (.bipush 112, 2) := by decide +kernel
theorem dX12_readUnits_298 : decode cX12_readUnits 298 = .ok (.if_icmp .eq 17, 3) := by decide +kernel
theorem dX12_readUnits_301 : decode cX12_readUnits 301 = .ok (.iload 6, 2) := by decide +kernel
theorem dX12_readUnits_303 : decode cX12_readUnits 303 = .ok (.bipush 98, 2) := by decide +kernel
theorem dX12_readUnits_305 : decode cX12_readUnits 305 = .ok (.if_icmp .eq 10, 3) := by decide +kernel
theorem dX12_readUnits_308 : decode cX12_readUnits 308 = .ok (.iload 6, 2) := by decide +kernel
theorem dX12_readUnits_310 : decode cX12_readUnits 310 = .ok (.bipush 115, 2) := by decide +kernel
theorem dX12_readUnits_312 : decode cX12_readUnits 312 = .ok (.if_icmp .ne 21, 3) := by decide +kernel
theorem dX12_readUnits_315 : decode cX12_readUnits 315 = .ok (.aload_n 0, 1) := by decide +kernel
theorem dX12_readUnits_316 : decode cX12_readUnits 316 = .ok (.iload_n 2, 1) := by decide +kernel
theorem dX12_readUnits_317 : decode cX12_readUnits 317 = .ok (.invokevirtual 150, 3) := by decide +kernel
theorem dX12_readUnits_320 : decode cX12_readUnits 320 = .ok (.ifCond .ne 23, 3) := by decide +kernel
theorem dX12_readUnits_323 : decode cX12_readUnits 323 = .ok (.aload_n 0, 1) := by decide +kernel
theorem dX12_readUnits_324 : decode cX12_readUnits 324 = .ok (.iconst 3, 1) := by decide +kernel
theorem dX12_readUnits_325 : decode cX12_readUnits 325 = .ok (.aload_n 0, 1) := by decide +kernel
theorem dX12_readUnits_326 : decode cX12_readUnits 326 = .ok (.getfield 94, 3) := by decide +kernel
theorem dX12_readUnits_329 : decode cX12_readUnits 329 = .ok (.invokevirtual 110, 3) := by decide +kernel
theorem dX12_readUnits_332 : decode cX12_readUnits 332 = .ok (.ireturn, 1) := by decide +kernel
theorem dX12_readUnits_333 : decode cX12_readUnits 333 = .ok (.aload_n 0, 1) := by decide +kernel
theorem dX12_readUnits_334 : decode cX12_readUnits 334 = .ok (.iconst 1, 1) := by decide +kernel
theorem dX12_readUnits_335 : decode cX12_readUnits 335 = .ok (.aload_n 0, 1) := by decide +kernel
theorem dX12_readUnits_336 : decode cX12_readUnits 336 = .ok (.getfield 94, 3) := by decide +kernel
theorem dX12_readUnits_339 : decode cX12_readUnits 339 = .ok (.invokevirtual 110, 3) := by decide +kernel
theorem dX12_readUnits_342 : decode cX12_readUnits 342 = .ok (.ireturn, 1) := by decide +kernel
theorem dX12_readUnits_343 : decode cX12_readUnits 343 = .ok (.aload_n 0, 1) := by decide +kernel
theorem dX12_readUnits_344 : decode cX12_readUnits 344 = .ok (.getfield 36, 3) := by decide +kernel
theorem dX12_readUnits_347 : decode cX12_readUnits 347 = .ok (.aload_n 0, 1) := by decide +kernel
theorem dX12_readUnits_348 : decode cX12_readUnits 348 = .ok (.getfield 144, 3) := by decide +kernel
theorem dX12_readUnits_351 : decode cX12_readUnits 351 = .ok (.iload 6, 2) := by decide +kernel
theorem dX12_readUnits_353 : decode cX12_readUnits 353 = .ok (.iastore, 1) := by decide +kernel
theorem dX12_readUnits_354 : decode cX12_readUnits 354 = .ok (.aload_n 0, 1) := by decide +kernel
theorem dX12_readUnits_355 : decode cX12_readUnits 355 = .ok (.getfield 39, 3) := by decide +kernel
theorem dX12_readUnits_358 : decode cX12_readUnits 358 = .ok (.aload_n 0, 1) := by decide +kernel
theorem dX12_readUnits_359 : decode cX12_readUnits 359 = .ok (.getfield 144, 3) := by decide +kernel
theorem dX12_readUnits_362 : decode cX12_readUnits 362 = .ok (.iload 5, 2) := by decide +kernel
theorem dX12_readUnits_364 : decode cX12_readUnits 364 = .ok (.iastore, 1) := by decide +kernel
theorem dX12_readUnits_365 : decode cX12_readUnits 365 = .ok (.aload_n 0, 1) := by decide +kernel
theorem dX12_readUnits_366 : decode cX12_readUnits 366 = .ok (.dup, 1) := by decide +kernel
theorem dX12_readUnits_367 : decode cX12_readUnits 367 = .ok (.getfield 144, 3) := by decide +kernel
theorem dX12_readUnits_370 : decode cX12_readUnits 370 = .ok (.iconst 1, 1) := by decide +kernel
theorem dX12_readUnits_371 : decode cX12_readUnits 371 = .ok (.iadd, 1) := by decide +kernel
theorem dX12_readUnits_372 : decode cX12_readUnits 372 = .ok (.putfield 144, 3) := by decide +kernel
theorem dX12_readUnits_375 : decode cX12_readUnits 375 = .ok (.iload 6, 2) := by decide +kernel
theorem dX12_readUnits_377 : decode cX12_readUnits 377 = .ok (.bipush 40, 2) := by decide +kernel
theorem dX12_readUnits_379 : decode cX12_readUnits 379 = .ok (.if_icmp .ne 7, 3) := by decide +kernel
theorem dX12_readUnits_382 : decode cX12_readUnits 382 = .ok (.iconst 1, 1) := by decide +kernel
theorem dX12_readUnits_383 : decode cX12_readUnits 383 = .ok (.goto 4, 3) := by decide +kernel
theorem dX12_readUnits_386 : decode cX12_readUnits 386 = .ok (.iconst 0, 1) := by decide +kernel
theorem dX12_readUnits_387 : decode cX12_readUnits 387 = .ok (.istore_n 3, 1) := by decide +kernel
theorem dX12_readUnits_388 : decode cX12_readUnits 388 = .ok (.aload_n 0, 1) := by decide +kernel
theorem dX12_readUnits_389 : decode cX12_readUnits 389 = .ok (.dup, 1) := by decide +kernel
theorem dX12_readUnits_390 : decode cX12_readUnits 390 = .ok (.getfield 94, 3) := by decide +kernel
theorem dX12_readUnits_393 : decode cX12_readUnits 393 = .ok (.iconst 1, 1) := by decide +kernel
theorem dX12_readUnits_394 : decode cX12_readUnits 394 = .ok (.iadd, 1) := by decide +kernel
theorem dX12_readUnits_395 : decode cX12_readUnits 395 = .ok (.putfield 94, 3) := by decide +kernel
theorem dX12_readUnits_398 : decode cX12_readUnits 398 = .ok (.aload_n 0, 1) := by decide +kernel
theorem dX12_readUnits_399 : decode cX12_readUnits 399 = .ok (.invokevirtual 121, 3) := by decide +kernel
theorem dX12_readUnits_402 : decode cX12_readUnits 402 = .ok (.goto (-387), 3) := by decide +kernel
theorem dX12_readUnits_405 : decode cX12_readUnits 405 = .ok (.iconst 1, 1) := by decide +kernel
theorem dX12_readUnits_406 : decode cX12_readUnits 406 = .ok (.ireturn, 1) := by decide +kernel
theorem dX12_counted_0 : decode cX12_counted 0 = .ok (.lconst 0, 1) := by decide +kernel
theorem dX12_counted_1 : decode cX12_counted 1 = .ok (.lstore_n 1, 1) := by decide +kernel
theorem dX12_counted_2 : decode cX12_counted 2 = .ok (.iconst 0, 1) := by decide +kernel
theorem dX12_counted_3 : decode cX12_counted 3 = .ok (.istore_n 3, 1) := by decide +kernel
theorem dX12_counted_4 : decode cX12_counted 4 = .ok (.iconst 0, 1) := by decide +kernel
theorem dX12_counted_5 : decode cX12_counted 5 = .ok (.istore 4, 2) := by decide +kernel
theorem dX12_counted_7 : decode cX12_counted 7 = .ok (.iload 4, 2) := by decide +kernel
theorem dX12_counted_9 : decode cX12_counted 9 = .ok (.aload_n 0, 1) := by decide +kernel
theorem dX12_counted_10 : decode cX12_counted 10 = .ok (.getfield 144, 3) := by decide +kernel
theorem dX12_counted_13 : decode cX12_counted 13 = .ok (.if_icmp .ge 132, 3) := by decide +kernel
theorem dX12_counted_16 : decode cX12_counted 16 = .ok (.aload_n 0, 1) := by decide +kernel
theorem dX12_counted_17 : decode cX12_counted 17 = .ok (.getfield 36, 3) := by decide +kernel
theorem dX12_counted_20 : decode cX12_counted 20 = .ok (.iload 4, 2) := by decide +kernel
theorem dX12_counted_22 : decode cX12_counted 22 = .ok (.iaload, 1) := by decide +kernel
theorem dX12_counted_23 : decode cX12_counted 23 = .ok (.bipush 40, 2) := by decide +kernel
theorem dX12_counted_25 : decode cX12_counted 25 = .ok (.if_icmp .ne 19, 3) := by decide +kernel
theorem dX12_counted_28 : decode cX12_counted 28 = .ok (.aload_n 0, 1) := by decide +kernel
theorem dX12_counted_29 : decode cX12_counted 29 = .ok (.getfield 48, 3) := by decide +kernel
theorem dX12_counted_32 : decode cX12_counted 32 = .ok (.iload 4, 2) := by decide +kernel
theorem dX12_counted_34 : decode cX12_counted 34 = .ok (.lload_n 1, 1) := by decide +kernel
theorem dX12_counted_35 : decode cX12_counted 35 = .ok (.lastore, 1) := by decide +kernel
theorem dX12_counted_36 : decode cX12_counted 36 = .ok (.lconst 0, 1) := by decide +kernel
theorem dX12_counted_37 : decode cX12_counted 37 = .ok (.lstore_n 1, 1) := by decide +kernel
theorem dX12_counted_38 : decode cX12_counted 38 = .ok (.iinc 3 1, 3) := by decide +kernel
theorem dX12_counted_41 : decode cX12_counted 41 = .ok (.goto 82, 3) := by decide +kernel
theorem dX12_counted_44 : decode cX12_counted 44 = .ok (.aload_n 0, 1) := by decide +kernel
theorem dX12_counted_45 : decode cX12_counted 45 = .ok (.getfield 36, 3) := by decide +kernel
theorem dX12_counted_48 : decode cX12_counted 48 = .ok (.iload 4, 2) := by decide +kernel
theorem dX12_counted_50 : decode cX12_counted 50 = .ok (.iaload, 1) := by decide +kernel
theorem dX12_counted_51 : decode cX12_counted 51 = .ok (.bipush 41, 2) := by decide +kernel
theorem dX12_counted_53 : decode cX12_counted 53 = .ok (.if_icmp .ne 47, 3) := by decide +kernel
theorem dX12_counted_56 : decode cX12_counted 56 = .ok (.aload_n 0, 1) := by decide +kernel
theorem dX12_counted_57 : decode cX12_counted 57 = .ok (.getfield 42, 3) := by decide +kernel
theorem dX12_counted_60 : decode cX12_counted 60 = .ok (.iload 4, 2) := by decide +kernel
theorem dX12_counted_62 : decode cX12_counted 62 = .ok (.iaload, 1) := by decide +kernel
theorem dX12_counted_63 : decode cX12_counted 63 = .ok (.istore 5, 2) := by decide +kernel
theorem dX12_counted_65 : decode cX12_counted 65 = .ok (.lload_n 1, 1) := by decide +kernel
theorem dX12_counted_66 : decode cX12_counted 66 = .ok (.lstore 6, 2) := by decide +kernel
theorem dX12_counted_68 : decode cX12_counted 68 = .ok (.aload_n 0, 1) := by decide +kernel
theorem dX12_counted_69 : decode cX12_counted 69 = .ok (.getfield 48, 3) := by decide +kernel
theorem dX12_counted_72 : decode cX12_counted 72 = .ok (.iload 5, 2) := by decide +kernel
theorem dX12_counted_74 : decode cX12_counted 74 = .ok (.laload, 1) := by decide +kernel
theorem dX12_counted_75 : decode cX12_counted 75 = .ok (.lload 6, 2) := by decide +kernel
theorem dX12_counted_77 : decode cX12_counted 77 = .ok (.aload_n 0, 1) := by decide +kernel
theorem dX12_counted_78 : decode cX12_counted 78 = .ok (.getfield 39, 3) := by decide +kernel
theorem dX12_counted_81 : decode cX12_counted 81 = .ok (.iload 5, 2) := by decide +kernel
theorem dX12_counted_83 : decode cX12_counted 83 = .ok (.iaload, 1) := by decide +kernel
theorem dX12_counted_84 : decode cX12_counted 84 = .ok (.i2l, 1) := by decide +kernel
theorem dX12_counted_85 : decode cX12_counted 85 = .ok (.lmul, 1) := by decide +kernel
theorem dX12_counted_86 : decode cX12_counted 86 = .ok (.ladd, 1) := by decide +kernel
theorem dX12_counted_87 : decode cX12_counted 87 = .ok (.lstore_n 1, 1) := by decide +kernel
theorem dX12_counted_88 : decode cX12_counted 88 = .ok (.aload_n 0, 1) := by decide +kernel
theorem dX12_counted_89 : decode cX12_counted 89 = .ok (.getfield 48, 3) := by decide +kernel
theorem dX12_counted_92 : decode cX12_counted 92 = .ok (.iload 5, 2) := by decide +kernel
theorem dX12_counted_94 : decode cX12_counted 94 = .ok (.lload 6, 2) := by decide +kernel
theorem dX12_counted_96 : decode cX12_counted 96 = .ok (.lastore, 1) := by decide +kernel
theorem dX12_counted_97 : decode cX12_counted 97 = .ok (.goto 26, 3) := by decide +kernel
theorem dX12_counted_100 : decode cX12_counted 100 = .ok (.aload_n 0, 1) := by decide +kernel
theorem dX12_counted_101 : decode cX12_counted 101 = .ok (.getfield 36, 3) := by decide +kernel
theorem dX12_counted_104 : decode cX12_counted 104 = .ok (.iload 4, 2) := by decide +kernel
theorem dX12_counted_106 : decode cX12_counted 106 = .ok (.iaload, 1) := by decide +kernel
theorem dX12_counted_107 : decode cX12_counted 107 = .ok (.bipush 97, 2) := by decide +kernel
theorem dX12_counted_109 : decode cX12_counted 109 = .ok (.if_icmp .lt 14, 3) := by decide +kernel
theorem dX12_counted_112 : decode cX12_counted 112 = .ok (.lload_n 1, 1) := by decide +kernel
theorem dX12_counted_113 : decode cX12_counted 113 = .ok (.aload_n 0, 1) := by decide +kernel
theorem dX12_counted_114 : decode cX12_counted 114 = .ok (.getfield 39, 3) := by decide +kernel
theorem dX12_counted_117 : decode cX12_counted 117 = .ok (.iload 4, 2) := by decide +kernel
theorem dX12_counted_119 : decode cX12_counted 119 = .ok (.iaload, 1) := by decide +kernel
theorem dX12_counted_120 : decode cX12_counted 120 = .ok (.i2l, 1) := by decide +kernel
theorem dX12_counted_121 : decode cX12_counted 121 = .ok (.ladd, 1) := by decide +kernel
theorem dX12_counted_122 : decode cX12_counted 122 = .ok (.lstore_n 1, 1) := by decide +kernel
theorem dX12_counted_123 : decode cX12_counted 123 = .ok (.lload_n 1, 1) := by decide +kernel
theorem dX12_counted_124 : decode cX12_counted 124 = .ok (.ldc2_w 153, 3) := by decide +kernel
theorem dX12_counted_127 : decode cX12_counted 127 = .ok (.lcmp, 1) := by decide +kernel
theorem dX12_counted_128 : decode cX12_counted 128 = .ok (.ifCond .le 9, 3) := by decide +kernel
theorem dX12_counted_131 : decode cX12_counted 131 = .ok (.ldc2_w 153, 3) := by decide +kernel
theorem dX12_counted_134 : decode cX12_counted 134 = .ok (.goto 4, 3) := by decide +kernel
theorem dX12_counted_137 : decode cX12_counted 137 = .ok (.lload_n 1, 1) := by decide +kernel
theorem dX12_counted_138 : decode cX12_counted 138 = .ok (.lstore_n 1, 1) := by decide +kernel
theorem dX12_counted_139 : decode cX12_counted 139 = .ok (.iinc 4 1, 3) := by decide +kernel
theorem dX12_counted_142 : decode cX12_counted 142 = .ok (.goto (-135), 3) := by decide +kernel
theorem dX12_counted_145 : decode cX12_counted 145 = .ok (.lload_n 1, 1) := by decide +kernel
theorem dX12_counted_146 : decode cX12_counted 146 = .ok (.lreturn, 1) := by decide +kernel
theorem dX12_unroll_0 : decode cX12_unroll 0 = .ok (.iconst 0, 1) := by decide +kernel
theorem dX12_unroll_1 : decode cX12_unroll 1 = .ok (.istore_n 1, 1) := by decide +kernel
theorem dX12_unroll_2 : decode cX12_unroll 2 = .ok (.iconst 0, 1) := by decide +kernel
theorem dX12_unroll_3 : decode cX12_unroll 3 = .ok (.istore_n 2, 1) := by decide +kernel
theorem dX12_unroll_4 : decode cX12_unroll 4 = .ok (.aload_n 0, 1) := by decide +kernel
theorem dX12_unroll_5 : decode cX12_unroll 5 = .ok (.iconst 0, 1) := by decide +kernel
theorem dX12_unroll_6 : decode cX12_unroll 6 = .ok (.putfield 107, 3) := by decide +kernel
theorem dX12_unroll_9 : decode cX12_unroll 9 = .ok (.iload_n 2, 1) := by decide +kernel
theorem dX12_unroll_10 : decode cX12_unroll 10 = .ok (.aload_n 0, 1) := by decide +kernel
theorem dX12_unroll_11 : decode cX12_unroll 11 = .ok (.getfield 144, 3) := by decide +kernel
theorem dX12_unroll_14 : decode cX12_unroll 14 = .ok (.if_icmp .ge 177, 3) := by decide +kernel
theorem dX12_unroll_17 : decode cX12_unroll 17 = .ok (.aload_n 0, 1) := by decide +kernel
theorem dX12_unroll_18 : decode cX12_unroll 18 = .ok (.getfield 36, 3) := by decide +kernel
theorem dX12_unroll_21 : decode cX12_unroll 21 = .ok (.iload_n 2, 1) := by decide +kernel
theorem dX12_unroll_22 : decode cX12_unroll 22 = .ok (.iaload, 1) := by decide +kernel
theorem dX12_unroll_23 : decode cX12_unroll 23 = .ok (.istore_n 3, 1) := by decide +kernel
theorem dX12_unroll_24 : decode cX12_unroll 24 = .ok (.iload_n 3, 1) := by decide +kernel
theorem dX12_unroll_25 : decode cX12_unroll 25 = .ok (.bipush 40, 2) := by decide +kernel
theorem dX12_unroll_27 : decode cX12_unroll 27 = .ok (.if_icmp .ne 33, 3) := by decide +kernel
theorem dX12_unroll_30 : decode cX12_unroll 30 = .ok (.aload_n 0, 1) := by decide +kernel
theorem dX12_unroll_31 : decode cX12_unroll 31 = .ok (.getfield 52, 3) := by decide +kernel
theorem dX12_unroll_34 : decode cX12_unroll 34 = .ok (.iload_n 2, 1) := by decide +kernel
theorem dX12_unroll_35 : decode cX12_unroll 35 = .ok (.aload_n 0, 1) := by decide +kernel
theorem dX12_unroll_36 : decode cX12_unroll 36 = .ok (.getfield 48, 3) := by decide +kernel
theorem dX12_unroll_39 : decode cX12_unroll 39 = .ok (.iload_n 2, 1) := by decide +kernel
theorem dX12_unroll_40 : decode cX12_unroll 40 = .ok (.laload, 1) := by decide +kernel
theorem dX12_unroll_41 : decode cX12_unroll 41 = .ok (.lconst 0, 1) := by decide +kernel
theorem dX12_unroll_42 : decode cX12_unroll 42 = .ok (.lcmp, 1) := by decide +kernel
theorem dX12_unroll_43 : decode cX12_unroll 43 = .ok (.ifCond .ne 7, 3) := by decide +kernel
theorem dX12_unroll_46 : decode cX12_unroll 46 = .ok (.iconst 1, 1) := by decide +kernel
theorem dX12_unroll_47 : decode cX12_unroll 47 = .ok (.goto 9, 3) := by decide +kernel
theorem dX12_unroll_50 : decode cX12_unroll 50 = .ok (.aload_n 0, 1) := by decide +kernel
theorem dX12_unroll_51 : decode cX12_unroll 51 = .ok (.getfield 39, 3) := by decide +kernel
theorem dX12_unroll_54 : decode cX12_unroll 54 = .ok (.iload_n 2, 1) := by decide +kernel
theorem dX12_unroll_55 : decode cX12_unroll 55 = .ok (.iaload, 1) := by decide +kernel
theorem dX12_unroll_56 : decode cX12_unroll 56 = .ok (.iastore, 1) := by decide +kernel
theorem dX12_unroll_57 : decode cX12_unroll 57 = .ok (.goto 128, 3) := by decide +kernel
theorem dX12_unroll_60 : decode cX12_unroll 60 = .ok (.iload_n 3, 1) := by decide +kernel
theorem dX12_unroll_61 : decode cX12_unroll 61 = .ok (.bipush 41, 2) := by decide +kernel
theorem dX12_unroll_63 : decode cX12_unroll 63 = .ok (.if_icmp .ne 38, 3) := by decide +kernel
theorem dX12_unroll_66 : decode cX12_unroll 66 = .ok (.aload_n 0, 1) := by decide +kernel
theorem dX12_unroll_67 : decode cX12_unroll 67 = .ok (.getfield 42, 3) := by decide +kernel
theorem dX12_unroll_70 : decode cX12_unroll 70 = .ok (.iload_n 2, 1) := by decide +kernel
theorem dX12_unroll_71 : decode cX12_unroll 71 = .ok (.iaload, 1) := by decide +kernel
theorem dX12_unroll_72 : decode cX12_unroll 72 = .ok (.istore 4, 2) := by decide +kernel
theorem dX12_unroll_74 : decode cX12_unroll 74 = .ok (.aload_n 0, 1) := by decide +kernel
theorem dX12_unroll_75 : decode cX12_unroll 75 = .ok (.getfield 52, 3) := by decide +kernel
theorem dX12_unroll_78 : decode cX12_unroll 78 = .ok (.iload 4, 2) := by decide +kernel
theorem dX12_unroll_80 : decode cX12_unroll 80 = .ok (.dup2, 1) := by decide +kernel
theorem dX12_unroll_81 : decode cX12_unroll 81 = .ok (.iaload, 1) := by decide +kernel
theorem dX12_unroll_82 : decode cX12_unroll 82 = .ok (.iconst 1, 1) := by decide +kernel
theorem dX12_unroll_83 : decode cX12_unroll 83 = .ok (.isub, 1) := by decide +kernel
theorem dX12_unroll_84 : decode cX12_unroll 84 = .ok (.iastore, 1) := by decide +kernel
theorem dX12_unroll_85 : decode cX12_unroll 85 = .ok (.aload_n 0, 1) := by decide +kernel
theorem dX12_unroll_86 : decode cX12_unroll 86 = .ok (.getfield 52, 3) := by decide +kernel
theorem dX12_unroll_89 : decode cX12_unroll 89 = .ok (.iload 4, 2) := by decide +kernel
theorem dX12_unroll_91 : decode cX12_unroll 91 = .ok (.iaload, 1) := by decide +kernel
theorem dX12_unroll_92 : decode cX12_unroll 92 = .ok (.ifCond .le 6, 3) := by decide +kernel
theorem dX12_unroll_95 : decode cX12_unroll 95 = .ok (.iload 4, 2) := by decide +kernel
theorem dX12_unroll_97 : decode cX12_unroll 97 = .ok (.istore_n 2, 1) := by decide +kernel
theorem dX12_unroll_98 : decode cX12_unroll 98 = .ok (.goto 87, 3) := by decide +kernel
theorem dX12_unroll_101 : decode cX12_unroll 101 = .ok (.iload_n 3, 1) := by decide +kernel
theorem dX12_unroll_102 : decode cX12_unroll 102 = .ok (.bipush 97, 2) := by decide +kernel
theorem dX12_unroll_104 : decode cX12_unroll 104 = .ok (.if_icmp .lt 76, 3) := by decide +kernel
theorem dX12_unroll_107 : decode cX12_unroll 107 = .ok (.iconst 0, 1) := by decide +kernel
theorem dX12_unroll_108 : decode cX12_unroll 108 = .ok (.istore 4, 2) := by decide +kernel
theorem dX12_unroll_110 : decode cX12_unroll 110 = .ok (.iload 4, 2) := by decide +kernel
theorem dX12_unroll_112 : decode cX12_unroll 112 = .ok (.aload_n 0, 1) := by decide +kernel
theorem dX12_unroll_113 : decode cX12_unroll 113 = .ok (.getfield 39, 3) := by decide +kernel
theorem dX12_unroll_116 : decode cX12_unroll 116 = .ok (.iload_n 2, 1) := by decide +kernel
theorem dX12_unroll_117 : decode cX12_unroll 117 = .ok (.iaload, 1) := by decide +kernel
theorem dX12_unroll_118 : decode cX12_unroll 118 = .ok (.if_icmp .ge 59, 3) := by decide +kernel
theorem dX12_unroll_121 : decode cX12_unroll 121 = .ok (.aload_n 0, 1) := by decide +kernel
theorem dX12_unroll_122 : decode cX12_unroll 122 = .ok (.getfield 20, 3) := by decide +kernel
theorem dX12_unroll_125 : decode cX12_unroll 125 = .ok (.aload_n 0, 1) := by decide +kernel
theorem dX12_unroll_126 : decode cX12_unroll 126 = .ok (.getfield 107, 3) := by decide +kernel
theorem dX12_unroll_129 : decode cX12_unroll 129 = .ok (.iload_n 1, 1) := by decide +kernel
theorem dX12_unroll_130 : decode cX12_unroll 130 = .ok (.iastore, 1) := by decide +kernel
theorem dX12_unroll_131 : decode cX12_unroll 131 = .ok (.aload_n 0, 1) := by decide +kernel
theorem dX12_unroll_132 : decode cX12_unroll 132 = .ok (.getfield 23, 3) := by decide +kernel
theorem dX12_unroll_135 : decode cX12_unroll 135 = .ok (.aload_n 0, 1) := by decide +kernel
theorem dX12_unroll_136 : decode cX12_unroll 136 = .ok (.getfield 107, 3) := by decide +kernel
theorem dX12_unroll_139 : decode cX12_unroll 139 = .ok (.iload_n 3, 1) := by decide +kernel
theorem dX12_unroll_140 : decode cX12_unroll 140 = .ok (.bipush 112, 2) := by decide +kernel
theorem dX12_unroll_142 : decode cX12_unroll 142 = .ok (.if_icmp .ne 7, 3) := by decide +kernel
theorem dX12_unroll_145 : decode cX12_unroll 145 = .ok (.iconst 0, 1) := by decide +kernel
theorem dX12_unroll_146 : decode cX12_unroll 146 = .ok (.goto 14, 3) := by decide +kernel
theorem dX12_unroll_149 : decode cX12_unroll 149 = .ok (.iload_n 3, 1) := by decide +kernel
theorem dX12_unroll_150 : decode cX12_unroll 150 = .ok (.bipush 98, 2) := by decide +kernel
theorem dX12_unroll_152 : decode cX12_unroll 152 = .ok (.if_icmp .ne 7, 3) := by decide +kernel
theorem dX12_unroll_155 : decode cX12_unroll 155 = .ok (.iconst 1, 1) := by decide +kernel
theorem dX12_unroll_156 : decode cX12_unroll 156 = .ok (.goto 4, 3) := by decide +kernel
theorem dX12_unroll_159 : decode cX12_unroll 159 = .ok (.iconst 2, 1) := by decide +kernel
theorem dX12_unroll_160 : decode cX12_unroll 160 = .ok (.iastore, 1) := by decide +kernel
theorem dX12_unroll_161 : decode cX12_unroll 161 = .ok (.aload_n 0, 1) := by decide +kernel
theorem dX12_unroll_162 : decode cX12_unroll 162 = .ok (.dup, 1) := by decide +kernel
theorem dX12_unroll_163 : decode cX12_unroll 163 = .ok (.getfield 107, 3) := by decide +kernel
theorem dX12_unroll_166 : decode cX12_unroll 166 = .ok (.iconst 1, 1) := by decide +kernel
theorem dX12_unroll_167 : decode cX12_unroll 167 = .ok (.iadd, 1) := by decide +kernel
theorem dX12_unroll_168 : decode cX12_unroll 168 = .ok (.putfield 107, 3) := by decide +kernel
theorem dX12_unroll_171 : decode cX12_unroll 171 = .ok (.iinc 4 1, 3) := by decide +kernel
theorem dX12_unroll_174 : decode cX12_unroll 174 = .ok (.goto (-64), 3) := by decide +kernel
theorem dX12_unroll_177 : decode cX12_unroll 177 = .ok (.goto 8, 3) := by decide +kernel
theorem dX12_unroll_180 : decode cX12_unroll 180 = .ok (.iload_n 3, 1) := by decide +kernel
theorem dX12_unroll_181 : decode cX12_unroll 181 = .ok (.bipush 65, 2) := by decide +kernel
theorem dX12_unroll_183 : decode cX12_unroll 183 = .ok (.isub, 1) := by decide +kernel
theorem dX12_unroll_184 : decode cX12_unroll 184 = .ok (.istore_n 1, 1) := by decide +kernel
theorem dX12_unroll_185 : decode cX12_unroll 185 = .ok (.iinc 2 1, 3) := by decide +kernel
theorem dX12_unroll_188 : decode cX12_unroll 188 = .ok (.goto (-179), 3) := by decide +kernel
theorem dX12_unroll_191 : decode cX12_unroll 191 = .ok (.return_, 1) := by decide +kernel
set_option maxRecDepth 20000 in
theorem ggX12_compose_X12_open : GoodIn wsX12_compose wsX12_open := goodIn_r _ [10, 11, 4, 12, 13, 57, 58, 59, 60, 61, 62, 63, 64, 65, 66, 67, 68, 69, 70, 71, 72, 73, 74, 75, 76, 77, 78, 79, 80, 81, 82, 83, 84, 85, 86, 87, 88, 89, 90, 91, 92, 93, 94] (by decide +kernel) (by decide +kernel)
set_option maxRecDepth 20000 in
theorem gX12_compose_X12_open : GoodIn wsX12_compose (wsV RX12 138 RX12 yX12_open wsX12_open) := goodIn_app (goodIn_of _ (by decide +kernel)) ggX12_compose_X12_open
set_option maxRecDepth 20000 in
theorem ggX12_compose_X12_readUnits : GoodIn wsX12_compose wsX12_readUnits := goodIn_r _ [17, 18, 12, 4, 19, 20, 21, 22, 23, 24, 25, 9, 26, 27, 28, 29, 30, 31, 32, 33, 34, 35, 36, 37, 38, 13, 2, 39, 40, 41, 42, 43, 57, 58, 59, 60, 61, 62, 63, 64, 65, 66, 67, 68, 69, 70, 71, 72, 73, 74, 75, 76, 77, 78, 79, 80, 81, 82, 83, 84, 85, 86, 87, 88, 89, 90, 91, 92, 93, 94] (by decide +kernel) (by decide +kernel)
set_option maxRecDepth 20000 in
theorem gX12_compose_X12_readUnits : GoodIn wsX12_compose (wsV RX12 155 RX12 yX12_readUnits wsX12_readUnits) := goodIn_app (goodIn_of _ (by decide +kernel)) ggX12_compose_X12_readUnits
set_option maxRecDepth 20000 in
theorem ggX12_compose_X12_counted : GoodIn wsX12_compose wsX12_counted := goodIn_r _ [47, 18, 21, 48, 20, 22, 49, 57, 58, 59, 60, 61, 62, 63, 64, 65, 66, 67, 68, 69, 70, 71, 72, 73, 74, 75, 76, 77, 78, 79, 80, 81, 82, 83, 84, 85, 86, 87, 88, 89, 90, 91, 92, 93, 94] (by decide +kernel) (by decide +kernel)
set_option maxRecDepth 20000 in
theorem gX12_compose_X12_counted : GoodIn wsX12_compose (wsV RX12 158 RX12 yX12_counted wsX12_counted) := goodIn_app (goodIn_of _ (by decide +kernel)) ggX12_compose_X12_counted
set_option maxRecDepth 20000 in
theorem ggX12_compose_X12_wrong : GoodIn wsX12_compose wsX12_wrong := goodIn_r _ [38, 13, 2, 57, 58, 59, 60, 61, 62, 63, 64, 65, 66, 67, 68, 69, 70, 71, 72, 73, 74, 75, 76, 77, 78, 79, 80, 81, 82, 83, 84, 85, 86, 87, 88, 89, 90, 91, 92, 93, 94] (by decide +kernel) (by decide +kernel)
set_option maxRecDepth 20000 in
theorem gX12_compose_X12_wrong : GoodIn wsX12_compose (wsV RX12 110 RX12 yX12_wrong wsX12_wrong) := goodIn_app (goodIn_of _ (by decide +kernel)) ggX12_compose_X12_wrong
set_option maxRecDepth 20000 in
theorem ggX12_compose_X12_unroll : GoodIn wsX12_compose wsX12_unroll := goodIn_r _ [53, 5, 18, 21, 54, 48, 22, 20, 55, 56, 57, 58, 59, 60, 61, 62, 63, 64, 65, 66, 67, 68, 69, 70, 71, 72, 73, 74, 75, 76, 77, 78, 79, 80, 81, 82, 83, 84, 85, 86, 87, 88, 89, 90, 91, 92, 93, 94] (by decide +kernel) (by decide +kernel)
set_option maxRecDepth 20000 in
theorem gX12_compose_X12_unroll : GoodIn wsX12_compose (wsV RX12 164 RX12 yX12_unroll wsX12_unroll) := goodIn_app (goodIn_of _ (by decide +kernel)) ggX12_compose_X12_unroll
theorem dX12_compose_0 : decode cX12_compose 0 = .ok (.aload_n 0, 1) := by decide +kernel
theorem dX12_compose_1 : decode cX12_compose 1 = .ok (.iconst 0, 1) := by decide +kernel
theorem dX12_compose_2 : decode cX12_compose 2 = .ok (.putfield 81, 3) := by decide +kernel
theorem dX12_compose_5 : decode cX12_compose 5 = .ok (.aload_n 0, 1) := by decide +kernel
theorem dX12_compose_6 : decode cX12_compose 6 = .ok (.invokevirtual 138, 3) := by decide +kernel
theorem dX12_compose_9 : decode cX12_compose 9 = .ok (.aload_n 0, 1) := by decide +kernel
theorem dX12_compose_10 : decode cX12_compose 10 = .ok (.invokevirtual 155, 3) := by decide +kernel
theorem dX12_compose_13 : decode cX12_compose 13 = .ok (.ifCond .ne 10, 3) := by decide +kernel
theorem dX12_compose_16 : decode cX12_compose 16 = .ok (.iconst (-1), 1) := by decide +kernel
theorem dX12_compose_17 : decode cX12_compose 17 = .ok (.aload_n 0, 1) := by decide +kernel
theorem dX12_compose_18 : decode cX12_compose 18 = .ok (.getfield 104, 3) := by decide +kernel
theorem dX12_compose_21 : decode cX12_compose 21 = .ok (.isub, 1) := by decide +kernel
theorem dX12_compose_22 : decode cX12_compose 22 = .ok (.ireturn, 1) := by decide +kernel
theorem dX12_compose_23 : decode cX12_compose 23 = .ok (.aload_n 0, 1) := by decide +kernel
theorem dX12_compose_24 : decode cX12_compose 24 = .ok (.invokevirtual 158, 3) := by decide +kernel
theorem dX12_compose_27 : decode cX12_compose 27 = .ok (.ldc2_w 162, 3) := by decide +kernel
theorem dX12_compose_30 : decode cX12_compose 30 = .ok (.lcmp, 1) := by decide +kernel
theorem dX12_compose_31 : decode cX12_compose 31 = .ok (.ifCond .le 20, 3) := by decide +kernel
theorem dX12_compose_34 : decode cX12_compose 34 = .ok (.aload_n 0, 1) := by decide +kernel
theorem dX12_compose_35 : decode cX12_compose 35 = .ok (.iconst 5, 1) := by decide +kernel
theorem dX12_compose_36 : decode cX12_compose 36 = .ok (.aload_n 0, 1) := by decide +kernel
theorem dX12_compose_37 : decode cX12_compose 37 = .ok (.getfield 91, 3) := by decide +kernel
theorem dX12_compose_40 : decode cX12_compose 40 = .ok (.invokevirtual 110, 3) := by decide +kernel
theorem dX12_compose_43 : decode cX12_compose 43 = .ok (.pop, 1) := by decide +kernel
theorem dX12_compose_44 : decode cX12_compose 44 = .ok (.iconst (-1), 1) := by decide +kernel
theorem dX12_compose_45 : decode cX12_compose 45 = .ok (.aload_n 0, 1) := by decide +kernel
theorem dX12_compose_46 : decode cX12_compose 46 = .ok (.getfield 91, 3) := by decide +kernel
theorem dX12_compose_49 : decode cX12_compose 49 = .ok (.isub, 1) := by decide +kernel
theorem dX12_compose_50 : decode cX12_compose 50 = .ok (.ireturn, 1) := by decide +kernel
theorem dX12_compose_51 : decode cX12_compose 51 = .ok (.aload_n 0, 1) := by decide +kernel
theorem dX12_compose_52 : decode cX12_compose 52 = .ok (.invokevirtual 164, 3) := by decide +kernel
theorem dX12_compose_55 : decode cX12_compose 55 = .ok (.aload_n 0, 1) := by decide +kernel
theorem dX12_compose_56 : decode cX12_compose 56 = .ok (.getfield 107, 3) := by decide +kernel
theorem dX12_compose_59 : decode cX12_compose 59 = .ok (.ireturn, 1) := by decide +kernel
theorem dX12_rounds_0 : decode cX12_rounds 0 = .ok (.iconst 0, 1) := by decide +kernel
theorem dX12_rounds_1 : decode cX12_rounds 1 = .ok (.istore_n 2, 1) := by decide +kernel
theorem dX12_rounds_2 : decode cX12_rounds 2 = .ok (.iload_n 2, 1) := by decide +kernel
theorem dX12_rounds_3 : decode cX12_rounds 3 = .ok (.aload_n 0, 1) := by decide +kernel
theorem dX12_rounds_4 : decode cX12_rounds 4 = .ok (.getfield 7, 3) := by decide +kernel
theorem dX12_rounds_7 : decode cX12_rounds 7 = .ok (.if_icmp .ge 15, 3) := by decide +kernel
theorem dX12_rounds_10 : decode cX12_rounds 10 = .ok (.aload_n 1, 1) := by decide +kernel
theorem dX12_rounds_11 : decode cX12_rounds 11 = .ok (.iload_n 2, 1) := by decide +kernel
theorem dX12_rounds_12 : decode cX12_rounds 12 = .ok (.iload_n 2, 1) := by decide +kernel
theorem dX12_rounds_13 : decode cX12_rounds 13 = .ok (.iconst 1, 1) := by decide +kernel
theorem dX12_rounds_14 : decode cX12_rounds 14 = .ok (.iadd, 1) := by decide +kernel
theorem dX12_rounds_15 : decode cX12_rounds 15 = .ok (.iastore, 1) := by decide +kernel
theorem dX12_rounds_16 : decode cX12_rounds 16 = .ok (.iinc 2 1, 3) := by decide +kernel
theorem dX12_rounds_19 : decode cX12_rounds 19 = .ok (.goto (-17), 3) := by decide +kernel
theorem dX12_rounds_22 : decode cX12_rounds 22 = .ok (.return_, 1) := by decide +kernel
theorem dX12_isRounds_0 : decode cX12_isRounds 0 = .ok (.iconst 0, 1) := by decide +kernel
theorem dX12_isRounds_1 : decode cX12_isRounds 1 = .ok (.istore_n 2, 1) := by decide +kernel
theorem dX12_isRounds_2 : decode cX12_isRounds 2 = .ok (.iload_n 2, 1) := by decide +kernel
theorem dX12_isRounds_3 : decode cX12_isRounds 3 = .ok (.aload_n 0, 1) := by decide +kernel
theorem dX12_isRounds_4 : decode cX12_isRounds 4 = .ok (.getfield 7, 3) := by decide +kernel
theorem dX12_isRounds_7 : decode cX12_isRounds 7 = .ok (.if_icmp .ge 20, 3) := by decide +kernel
theorem dX12_isRounds_10 : decode cX12_isRounds 10 = .ok (.aload_n 1, 1) := by decide +kernel
theorem dX12_isRounds_11 : decode cX12_isRounds 11 = .ok (.iload_n 2, 1) := by decide +kernel
theorem dX12_isRounds_12 : decode cX12_isRounds 12 = .ok (.iaload, 1) := by decide +kernel
theorem dX12_isRounds_13 : decode cX12_isRounds 13 = .ok (.iload_n 2, 1) := by decide +kernel
theorem dX12_isRounds_14 : decode cX12_isRounds 14 = .ok (.iconst 1, 1) := by decide +kernel
theorem dX12_isRounds_15 : decode cX12_isRounds 15 = .ok (.iadd, 1) := by decide +kernel
theorem dX12_isRounds_16 : decode cX12_isRounds 16 = .ok (.if_icmp .eq 5, 3) := by decide +kernel
theorem dX12_isRounds_19 : decode cX12_isRounds 19 = .ok (.iconst 0, 1) := by decide +kernel
theorem dX12_isRounds_20 : decode cX12_isRounds 20 = .ok (.ireturn, 1) := by decide +kernel
theorem dX12_isRounds_21 : decode cX12_isRounds 21 = .ok (.iinc 2 1, 3) := by decide +kernel
theorem dX12_isRounds_24 : decode cX12_isRounds 24 = .ok (.goto (-22), 3) := by decide +kernel
theorem dX12_isRounds_27 : decode cX12_isRounds 27 = .ok (.iconst 1, 1) := by decide +kernel
theorem dX12_isRounds_28 : decode cX12_isRounds 28 = .ok (.ireturn, 1) := by decide +kernel
theorem dX12_ring_0 : decode cX12_ring 0 = .ok (.iconst 0, 1) := by decide +kernel
theorem dX12_ring_1 : decode cX12_ring 1 = .ok (.istore_n 3, 1) := by decide +kernel
theorem dX12_ring_2 : decode cX12_ring 2 = .ok (.iload_n 3, 1) := by decide +kernel
theorem dX12_ring_3 : decode cX12_ring 3 = .ok (.aload_n 0, 1) := by decide +kernel
theorem dX12_ring_4 : decode cX12_ring 4 = .ok (.getfield 7, 3) := by decide +kernel
theorem dX12_ring_7 : decode cX12_ring 7 = .ok (.if_icmp .ge 44, 3) := by decide +kernel
theorem dX12_ring_10 : decode cX12_ring 10 = .ok (.iload_n 2, 1) := by decide +kernel
theorem dX12_ring_11 : decode cX12_ring 11 = .ok (.iload_n 3, 1) := by decide +kernel
theorem dX12_ring_12 : decode cX12_ring 12 = .ok (.ishr, 1) := by decide +kernel
theorem dX12_ring_13 : decode cX12_ring 13 = .ok (.iconst 1, 1) := by decide +kernel
theorem dX12_ring_14 : decode cX12_ring 14 = .ok (.iand, 1) := by decide +kernel
theorem dX12_ring_15 : decode cX12_ring 15 = .ok (.iconst 1, 1) := by decide +kernel
theorem dX12_ring_16 : decode cX12_ring 16 = .ok (.if_icmp .ne 9, 3) := by decide +kernel
theorem dX12_ring_19 : decode cX12_ring 19 = .ok (.iinc 3 1, 3) := by decide +kernel
theorem dX12_ring_22 : decode cX12_ring 22 = .ok (.goto (-20), 3) := by decide +kernel
theorem dX12_ring_25 : decode cX12_ring 25 = .ok (.aload_n 1, 1) := by decide +kernel
theorem dX12_ring_26 : decode cX12_ring 26 = .ok (.iload_n 3, 1) := by decide +kernel
theorem dX12_ring_27 : decode cX12_ring 27 = .ok (.iaload, 1) := by decide +kernel
theorem dX12_ring_28 : decode cX12_ring 28 = .ok (.istore 4, 2) := by decide +kernel
theorem dX12_ring_30 : decode cX12_ring 30 = .ok (.aload_n 1, 1) := by decide +kernel
theorem dX12_ring_31 : decode cX12_ring 31 = .ok (.iload_n 3, 1) := by decide +kernel
theorem dX12_ring_32 : decode cX12_ring 32 = .ok (.aload_n 1, 1) := by decide +kernel
theorem dX12_ring_33 : decode cX12_ring 33 = .ok (.iload_n 3, 1) := by decide +kernel
theorem dX12_ring_34 : decode cX12_ring 34 = .ok (.iconst 1, 1) := by decide +kernel
theorem dX12_ring_35 : decode cX12_ring 35 = .ok (.iadd, 1) := by decide +kernel
theorem dX12_ring_36 : decode cX12_ring 36 = .ok (.iaload, 1) := by decide +kernel
theorem dX12_ring_37 : decode cX12_ring 37 = .ok (.iastore, 1) := by decide +kernel
theorem dX12_ring_38 : decode cX12_ring 38 = .ok (.aload_n 1, 1) := by decide +kernel
theorem dX12_ring_39 : decode cX12_ring 39 = .ok (.iload_n 3, 1) := by decide +kernel
theorem dX12_ring_40 : decode cX12_ring 40 = .ok (.iconst 1, 1) := by decide +kernel
theorem dX12_ring_41 : decode cX12_ring 41 = .ok (.iadd, 1) := by decide +kernel
theorem dX12_ring_42 : decode cX12_ring 42 = .ok (.iload 4, 2) := by decide +kernel
theorem dX12_ring_44 : decode cX12_ring 44 = .ok (.iastore, 1) := by decide +kernel
theorem dX12_ring_45 : decode cX12_ring 45 = .ok (.iinc 3 2, 3) := by decide +kernel
theorem dX12_ring_48 : decode cX12_ring 48 = .ok (.goto (-46), 3) := by decide +kernel
theorem dX12_ring_51 : decode cX12_ring 51 = .ok (.return_, 1) := by decide +kernel
theorem dX12_number_0 : decode cX12_number 0 = .ok (.iconst 0, 1) := by decide +kernel
theorem dX12_number_1 : decode cX12_number 1 = .ok (.istore_n 2, 1) := by decide +kernel
theorem dX12_number_2 : decode cX12_number 2 = .ok (.iconst 0, 1) := by decide +kernel
theorem dX12_number_3 : decode cX12_number 3 = .ok (.istore_n 3, 1) := by decide +kernel
theorem dX12_number_4 : decode cX12_number 4 = .ok (.iload_n 3, 1) := by decide +kernel
theorem dX12_number_5 : decode cX12_number 5 = .ok (.aload_n 0, 1) := by decide +kernel
theorem dX12_number_6 : decode cX12_number 6 = .ok (.getfield 7, 3) := by decide +kernel
theorem dX12_number_9 : decode cX12_number 9 = .ok (.if_icmp .ge 18, 3) := by decide +kernel
theorem dX12_number_12 : decode cX12_number 12 = .ok (.bipush 10, 2) := by decide +kernel
theorem dX12_number_14 : decode cX12_number 14 = .ok (.iload_n 2, 1) := by decide +kernel
theorem dX12_number_15 : decode cX12_number 15 = .ok (.imul, 1) := by decide +kernel
theorem dX12_number_16 : decode cX12_number 16 = .ok (.aload_n 1, 1) := by decide +kernel
theorem dX12_number_17 : decode cX12_number 17 = .ok (.iload_n 3, 1) := by decide +kernel
theorem dX12_number_18 : decode cX12_number 18 = .ok (.iaload, 1) := by decide +kernel
theorem dX12_number_19 : decode cX12_number 19 = .ok (.iadd, 1) := by decide +kernel
theorem dX12_number_20 : decode cX12_number 20 = .ok (.istore_n 2, 1) := by decide +kernel
theorem dX12_number_21 : decode cX12_number 21 = .ok (.iinc 3 1, 3) := by decide +kernel
theorem dX12_number_24 : decode cX12_number 24 = .ok (.goto (-20), 3) := by decide +kernel
theorem dX12_number_27 : decode cX12_number 27 = .ok (.iload_n 2, 1) := by decide +kernel
theorem dX12_number_28 : decode cX12_number 28 = .ok (.ireturn, 1) := by decide +kernel
theorem dX12_rank_0 : decode cX12_rank 0 = .ok (.iconst 0, 1) := by decide +kernel
theorem dX12_rank_1 : decode cX12_rank 1 = .ok (.istore_n 2, 1) := by decide +kernel
theorem dX12_rank_2 : decode cX12_rank 2 = .ok (.iconst 0, 1) := by decide +kernel
theorem dX12_rank_3 : decode cX12_rank 3 = .ok (.istore_n 3, 1) := by decide +kernel
theorem dX12_rank_4 : decode cX12_rank 4 = .ok (.iload_n 3, 1) := by decide +kernel
theorem dX12_rank_5 : decode cX12_rank 5 = .ok (.aload_n 0, 1) := by decide +kernel
theorem dX12_rank_6 : decode cX12_rank 6 = .ok (.getfield 7, 3) := by decide +kernel
theorem dX12_rank_9 : decode cX12_rank 9 = .ok (.if_icmp .ge 64, 3) := by decide +kernel
theorem dX12_rank_12 : decode cX12_rank 12 = .ok (.iconst 0, 1) := by decide +kernel
theorem dX12_rank_13 : decode cX12_rank 13 = .ok (.istore 4, 2) := by decide +kernel
theorem dX12_rank_15 : decode cX12_rank 15 = .ok (.iload_n 3, 1) := by decide +kernel
theorem dX12_rank_16 : decode cX12_rank 16 = .ok (.iconst 1, 1) := by decide +kernel
theorem dX12_rank_17 : decode cX12_rank 17 = .ok (.iadd, 1) := by decide +kernel
theorem dX12_rank_18 : decode cX12_rank 18 = .ok (.istore 5, 2) := by decide +kernel
theorem dX12_rank_20 : decode cX12_rank 20 = .ok (.iload 5, 2) := by decide +kernel
theorem dX12_rank_22 : decode cX12_rank 22 = .ok (.aload_n 0, 1) := by decide +kernel
theorem dX12_rank_23 : decode cX12_rank 23 = .ok (.getfield 7, 3) := by decide +kernel
theorem dX12_rank_26 : decode cX12_rank 26 = .ok (.if_icmp .ge 29, 3) := by decide +kernel
theorem dX12_rank_29 : decode cX12_rank 29 = .ok (.iload 4, 2) := by decide +kernel
theorem dX12_rank_31 : decode cX12_rank 31 = .ok (.aload_n 1, 1) := by decide +kernel
theorem dX12_rank_32 : decode cX12_rank 32 = .ok (.iload 5, 2) := by decide +kernel
theorem dX12_rank_34 : decode cX12_rank 34 = .ok (.iaload, 1) := by decide +kernel
theorem dX12_rank_35 : decode cX12_rank 35 = .ok (.aload_n 1, 1) := by decide +kernel
theorem dX12_rank_36 : decode cX12_rank 36 = .ok (.iload_n 3, 1) := by decide +kernel
theorem dX12_rank_37 : decode cX12_rank 37 = .ok (.iaload, 1) := by decide +kernel
theorem dX12_rank_38 : decode cX12_rank 38 = .ok (.if_icmp .ge 7, 3) := by decide +kernel
theorem dX12_rank_41 : decode cX12_rank 41 = .ok (.iconst 1, 1) := by decide +kernel
theorem dX12_rank_42 : decode cX12_rank 42 = .ok (.goto 4, 3) := by decide +kernel
theorem dX12_rank_45 : decode cX12_rank 45 = .ok (.iconst 0, 1) := by decide +kernel
theorem dX12_rank_46 : decode cX12_rank 46 = .ok (.iadd, 1) := by decide +kernel
theorem dX12_rank_47 : decode cX12_rank 47 = .ok (.istore 4, 2) := by decide +kernel
theorem dX12_rank_49 : decode cX12_rank 49 = .ok (.iinc 5 1, 3) := by decide +kernel
theorem dX12_rank_52 : decode cX12_rank 52 = .ok (.goto (-32), 3) := by decide +kernel
theorem dX12_rank_55 : decode cX12_rank 55 = .ok (.iload_n 2, 1) := by decide +kernel
theorem dX12_rank_56 : decode cX12_rank 56 = .ok (.aload_n 0, 1) := by decide +kernel
theorem dX12_rank_57 : decode cX12_rank 57 = .ok (.getfield 7, 3) := by decide +kernel
theorem dX12_rank_60 : decode cX12_rank 60 = .ok (.iload_n 3, 1) := by decide +kernel
theorem dX12_rank_61 : decode cX12_rank 61 = .ok (.isub, 1) := by decide +kernel
theorem dX12_rank_62 : decode cX12_rank 62 = .ok (.imul, 1) := by decide +kernel
theorem dX12_rank_63 : decode cX12_rank 63 = .ok (.iload 4, 2) := by decide +kernel
theorem dX12_rank_65 : decode cX12_rank 65 = .ok (.iadd, 1) := by decide +kernel
theorem dX12_rank_66 : decode cX12_rank 66 = .ok (.istore_n 2, 1) := by decide +kernel
theorem dX12_rank_67 : decode cX12_rank 67 = .ok (.iinc 3 1, 3) := by decide +kernel
theorem dX12_rank_70 : decode cX12_rank 70 = .ok (.goto (-66), 3) := by decide +kernel
theorem dX12_rank_73 : decode cX12_rank 73 = .ok (.iload_n 2, 1) := by decide +kernel
theorem dX12_rank_74 : decode cX12_rank 74 = .ok (.ireturn, 1) := by decide +kernel
theorem dX12_last_0 : decode cX12_last 0 = .ok (.aload_n 0, 1) := by decide +kernel
theorem dX12_last_1 : decode cX12_last 1 = .ok (.getfield 17, 3) := by decide +kernel
theorem dX12_last_4 : decode cX12_last 4 = .ok (.bipush 66, 2) := by decide +kernel
theorem dX12_last_6 : decode cX12_last 6 = .ok (.iload_n 1, 1) := by decide +kernel
theorem dX12_last_7 : decode cX12_last 7 = .ok (.imul, 1) := by decide +kernel
theorem dX12_last_8 : decode cX12_last 8 = .ok (.iload_n 2, 1) := by decide +kernel
theorem dX12_last_9 : decode cX12_last 9 = .ok (.ifCond .ne 14, 3) := by decide +kernel
theorem dX12_last_12 : decode cX12_last 12 = .ok (.aload_n 0, 1) := by decide +kernel
theorem dX12_last_13 : decode cX12_last 13 = .ok (.getfield 13, 3) := by decide +kernel
theorem dX12_last_16 : decode cX12_last 16 = .ok (.iload_n 1, 1) := by decide +kernel
theorem dX12_last_17 : decode cX12_last 17 = .ok (.iaload, 1) := by decide +kernel
theorem dX12_last_18 : decode cX12_last 18 = .ok (.iconst 1, 1) := by decide +kernel
theorem dX12_last_19 : decode cX12_last 19 = .ok (.isub, 1) := by decide +kernel
theorem dX12_last_20 : decode cX12_last 20 = .ok (.goto 7, 3) := by decide +kernel
theorem dX12_last_23 : decode cX12_last 23 = .ok (.bipush 63, 2) := by decide +kernel
theorem dX12_last_25 : decode cX12_last 25 = .ok (.iload_n 2, 1) := by decide +kernel
theorem dX12_last_26 : decode cX12_last 26 = .ok (.iadd, 1) := by decide +kernel
theorem dX12_last_27 : decode cX12_last 27 = .ok (.iadd, 1) := by decide +kernel
theorem dX12_last_28 : decode cX12_last 28 = .ok (.iaload, 1) := by decide +kernel
theorem dX12_last_29 : decode cX12_last 29 = .ok (.ireturn, 1) := by decide +kernel
set_option maxRecDepth 20000 in
theorem ggX12_ringLead_X12_ring : GoodIn wsX12_ringLead wsX12_ring := goodIn_r _ [7, 8, 13, 14, 15, 16, 17, 18, 19, 20, 21, 22, 23, 24, 25, 26, 27, 28, 29, 30, 31, 32, 33, 34, 35, 36, 37, 38, 39, 40, 41, 42, 43, 44, 45, 46, 47, 48, 49, 50] (by decide +kernel) (by decide +kernel)
set_option maxRecDepth 20000 in
theorem gX12_ringLead_X12_ring : GoodIn wsX12_ringLead (wsV RX12 167 RX12 yX12_ring wsX12_ring) := goodIn_app (goodIn_of _ (by decide +kernel)) ggX12_ringLead_X12_ring
set_option maxRecDepth 20000 in
theorem ggX12_ringLead_X12_last : GoodIn wsX12_ringLead wsX12_last := goodIn_r _ [12, 2, 1, 13, 14, 15, 16, 17, 18, 19, 20, 21, 22, 23, 24, 25, 26, 27, 28, 29, 30, 31, 32, 33, 34, 35, 36, 37, 38, 39, 40, 41, 42, 43, 44, 45, 46, 47, 48, 49, 50] (by decide +kernel) (by decide +kernel)
set_option maxRecDepth 20000 in
theorem gX12_ringLead_X12_last : GoodIn wsX12_ringLead (wsV RX12 171 RX12 yX12_last wsX12_last) := goodIn_app (goodIn_of _ (by decide +kernel)) ggX12_ringLead_X12_last
theorem dX12_ringLead_0 : decode cX12_ringLead 0 = .ok (.iconst 0, 1) := by decide +kernel
theorem dX12_ringLead_1 : decode cX12_ringLead 1 = .ok (.istore 4, 2) := by decide +kernel
theorem dX12_ringLead_3 : decode cX12_ringLead 3 = .ok (.iload 4, 2) := by decide +kernel
theorem dX12_ringLead_5 : decode cX12_ringLead 5 = .ok (.iconst 1, 1) := by decide +kernel
theorem dX12_ringLead_6 : decode cX12_ringLead 6 = .ok (.iadd, 1) := by decide +kernel
theorem dX12_ringLead_7 : decode cX12_ringLead 7 = .ok (.aload_n 0, 1) := by decide +kernel
theorem dX12_ringLead_8 : decode cX12_ringLead 8 = .ok (.getfield 13, 3) := by decide +kernel
theorem dX12_ringLead_11 : decode cX12_ringLead 11 = .ok (.iload_n 2, 1) := by decide +kernel
theorem dX12_ringLead_12 : decode cX12_ringLead 12 = .ok (.iaload, 1) := by decide +kernel
theorem dX12_ringLead_13 : decode cX12_ringLead 13 = .ok (.if_icmp .ge 26, 3) := by decide +kernel
theorem dX12_ringLead_16 : decode cX12_ringLead 16 = .ok (.aload_n 0, 1) := by decide +kernel
theorem dX12_ringLead_17 : decode cX12_ringLead 17 = .ok (.aload_n 1, 1) := by decide +kernel
theorem dX12_ringLead_18 : decode cX12_ringLead 18 = .ok (.aload_n 0, 1) := by decide +kernel
theorem dX12_ringLead_19 : decode cX12_ringLead 19 = .ok (.getfield 17, 3) := by decide +kernel
theorem dX12_ringLead_22 : decode cX12_ringLead 22 = .ok (.bipush 66, 2) := by decide +kernel
theorem dX12_ringLead_24 : decode cX12_ringLead 24 = .ok (.iload_n 2, 1) := by decide +kernel
theorem dX12_ringLead_25 : decode cX12_ringLead 25 = .ok (.imul, 1) := by decide +kernel
theorem dX12_ringLead_26 : decode cX12_ringLead 26 = .ok (.iload 4, 2) := by decide +kernel
theorem dX12_ringLead_28 : decode cX12_ringLead 28 = .ok (.iadd, 1) := by decide +kernel
theorem dX12_ringLead_29 : decode cX12_ringLead 29 = .ok (.iaload, 1) := by decide +kernel
theorem dX12_ringLead_30 : decode cX12_ringLead 30 = .ok (.invokevirtual 167, 3) := by decide +kernel
theorem dX12_ringLead_33 : decode cX12_ringLead 33 = .ok (.iinc 4 1, 3) := by decide +kernel
theorem dX12_ringLead_36 : decode cX12_ringLead 36 = .ok (.goto (-33), 3) := by decide +kernel
theorem dX12_ringLead_39 : decode cX12_ringLead 39 = .ok (.aload_n 0, 1) := by decide +kernel
theorem dX12_ringLead_40 : decode cX12_ringLead 40 = .ok (.aload_n 1, 1) := by decide +kernel
theorem dX12_ringLead_41 : decode cX12_ringLead 41 = .ok (.aload_n 0, 1) := by decide +kernel
theorem dX12_ringLead_42 : decode cX12_ringLead 42 = .ok (.iload_n 2, 1) := by decide +kernel
theorem dX12_ringLead_43 : decode cX12_ringLead 43 = .ok (.iload_n 3, 1) := by decide +kernel
theorem dX12_ringLead_44 : decode cX12_ringLead 44 = .ok (.invokevirtual 171, 3) := by decide +kernel
theorem dX12_ringLead_47 : decode cX12_ringLead 47 = .ok (.invokevirtual 167, 3) := by decide +kernel
theorem dX12_ringLead_50 : decode cX12_ringLead 50 = .ok (.return_, 1) := by decide +kernel
set_option maxRecDepth 20000 in
theorem ggX12_lead_X12_isTold : GoodIn wsX12_lead wsX12_isTold := goodIn_r _ [8, 1, 27, 28, 29, 30, 31, 32, 33, 34, 35, 36, 37, 38, 39, 40, 41, 42, 43, 44, 45, 46, 47, 48, 49, 50, 51, 52, 53, 54, 55, 56, 57, 58, 59, 60, 61, 62, 63, 64] (by decide +kernel) (by decide +kernel)
set_option maxRecDepth 20000 in
theorem gX12_lead_X12_isTold : GoodIn wsX12_lead (wsV RX12 150 RX12 yX12_isTold wsX12_isTold) := goodIn_app (goodIn_of _ (by decide +kernel)) ggX12_lead_X12_isTold
set_option maxRecDepth 20000 in
theorem ggX12_lead_X12_throwsIf : GoodIn wsX12_lead wsX12_throwsIf := goodIn_r _ [12, 13, 27, 28, 29, 30, 31, 32, 33, 34, 35, 36, 37, 38, 39, 40, 41, 42, 43, 44, 45, 46, 47, 48, 49, 50, 51, 52, 53, 54, 55, 56, 57, 58, 59, 60, 61, 62, 63, 64] (by decide +kernel) (by decide +kernel)
set_option maxRecDepth 20000 in
theorem gX12_lead_X12_throwsIf : GoodIn wsX12_lead (wsV RX12 134 RX12 yX12_throwsIf wsX12_throwsIf) := goodIn_app (goodIn_of _ (by decide +kernel)) ggX12_lead_X12_throwsIf
set_option maxRecDepth 20000 in
theorem ggX12_lead_X12_rounds : GoodIn wsX12_lead wsX12_rounds := goodIn_r _ [17, 18, 27, 28, 29, 30, 31, 32, 33, 34, 35, 36, 37, 38, 39, 40, 41, 42, 43, 44, 45, 46, 47, 48, 49, 50, 51, 52, 53, 54, 55, 56, 57, 58, 59, 60, 61, 62, 63, 64] (by decide +kernel) (by decide +kernel)
set_option maxRecDepth 20000 in
theorem gX12_lead_X12_rounds : GoodIn wsX12_lead (wsV RX12 175 RX12 yX12_rounds wsX12_rounds) := goodIn_app (goodIn_of _ (by decide +kernel)) ggX12_lead_X12_rounds
set_option maxRecDepth 20000 in
theorem ggX12_lead_X12_ring : GoodIn wsX12_lead wsX12_ring := goodIn_r _ [22, 18, 27, 28, 29, 30, 31, 32, 33, 34, 35, 36, 37, 38, 39, 40, 41, 42, 43, 44, 45, 46, 47, 48, 49, 50, 51, 52, 53, 54, 55, 56, 57, 58, 59, 60, 61, 62, 63, 64] (by decide +kernel) (by decide +kernel)
set_option maxRecDepth 20000 in
theorem gX12_lead_X12_ring : GoodIn wsX12_lead (wsV RX12 167 RX12 yX12_ring wsX12_ring) := goodIn_app (goodIn_of _ (by decide +kernel)) ggX12_lead_X12_ring
set_option maxRecDepth 20000 in
theorem ggX12_lead_X12_number : GoodIn wsX12_lead wsX12_number := goodIn_r _ [26, 18, 27, 28, 29, 30, 31, 32, 33, 34, 35, 36, 37, 38, 39, 40, 41, 42, 43, 44, 45, 46, 47, 48, 49, 50, 51, 52, 53, 54, 55, 56, 57, 58, 59, 60, 61, 62, 63, 64] (by decide +kernel) (by decide +kernel)
set_option maxRecDepth 20000 in
theorem gX12_lead_X12_number : GoodIn wsX12_lead (wsV RX12 179 RX12 yX12_number wsX12_number) := goodIn_app (goodIn_of _ (by decide +kernel)) ggX12_lead_X12_number
theorem dX12_lead_0 : decode cX12_lead 0 = .ok (.aload_n 0, 1) := by decide +kernel
theorem dX12_lead_1 : decode cX12_lead 1 = .ok (.aload_n 0, 1) := by decide +kernel
theorem dX12_lead_2 : decode cX12_lead 2 = .ok (.iload_n 1, 1) := by decide +kernel
theorem dX12_lead_3 : decode cX12_lead 3 = .ok (.invokevirtual 150, 3) := by decide +kernel
theorem dX12_lead_6 : decode cX12_lead 6 = .ok (.ifCond .eq 29, 3) := by decide +kernel
theorem dX12_lead_9 : decode cX12_lead 9 = .ok (.iload_n 2, 1) := by decide +kernel
theorem dX12_lead_10 : decode cX12_lead 10 = .ok (.ifCond .lt 25, 3) := by decide +kernel
theorem dX12_lead_13 : decode cX12_lead 13 = .ok (.iload_n 2, 1) := by decide +kernel
theorem dX12_lead_14 : decode cX12_lead 14 = .ok (.aload_n 0, 1) := by decide +kernel
theorem dX12_lead_15 : decode cX12_lead 15 = .ok (.iload_n 1, 1) := by decide +kernel
theorem dX12_lead_16 : decode cX12_lead 16 = .ok (.invokevirtual 150, 3) := by decide +kernel
theorem dX12_lead_19 : decode cX12_lead 19 = .ok (.ifCond .eq 12, 3) := by decide +kernel
theorem dX12_lead_22 : decode cX12_lead 22 = .ok (.aload_n 0, 1) := by decide +kernel
theorem dX12_lead_23 : decode cX12_lead 23 = .ok (.getfield 13, 3) := by decide +kernel
theorem dX12_lead_26 : decode cX12_lead 26 = .ok (.iload_n 1, 1) := by decide +kernel
theorem dX12_lead_27 : decode cX12_lead 27 = .ok (.iaload, 1) := by decide +kernel
theorem dX12_lead_28 : decode cX12_lead 28 = .ok (.goto 4, 3) := by decide +kernel
theorem dX12_lead_31 : decode cX12_lead 31 = .ok (.iconst 0, 1) := by decide +kernel
theorem dX12_lead_32 : decode cX12_lead 32 = .ok (.if_icmp .le 7, 3) := by decide +kernel
theorem dX12_lead_35 : decode cX12_lead 35 = .ok (.iconst 1, 1) := by decide +kernel
theorem dX12_lead_36 : decode cX12_lead 36 = .ok (.goto 4, 3) := by decide +kernel
theorem dX12_lead_39 : decode cX12_lead 39 = .ok (.iconst 0, 1) := by decide +kernel
theorem dX12_lead_40 : decode cX12_lead 40 = .ok (.iconst 1, 1) := by decide +kernel
theorem dX12_lead_41 : decode cX12_lead 41 = .ok (.invokevirtual 134, 3) := by decide +kernel
theorem dX12_lead_44 : decode cX12_lead 44 = .ok (.ifCond .eq 5, 3) := by decide +kernel
theorem dX12_lead_47 : decode cX12_lead 47 = .ok (.iconst 0, 1) := by decide +kernel
theorem dX12_lead_48 : decode cX12_lead 48 = .ok (.ireturn, 1) := by decide +kernel
theorem dX12_lead_49 : decode cX12_lead 49 = .ok (.aload_n 0, 1) := by decide +kernel
theorem dX12_lead_50 : decode cX12_lead 50 = .ok (.aload_n 0, 1) := by decide +kernel
theorem dX12_lead_51 : decode cX12_lead 51 = .ok (.getfield 55, 3) := by decide +kernel
theorem dX12_lead_54 : decode cX12_lead 54 = .ok (.invokevirtual 175, 3) := by decide +kernel
theorem dX12_lead_57 : decode cX12_lead 57 = .ok (.iconst 0, 1) := by decide +kernel
theorem dX12_lead_58 : decode cX12_lead 58 = .ok (.istore_n 3, 1) := by decide +kernel
theorem dX12_lead_59 : decode cX12_lead 59 = .ok (.iload_n 3, 1) := by decide +kernel
theorem dX12_lead_60 : decode cX12_lead 60 = .ok (.iload_n 2, 1) := by decide +kernel
theorem dX12_lead_61 : decode cX12_lead 61 = .ok (.if_icmp .ge 28, 3) := by decide +kernel
theorem dX12_lead_64 : decode cX12_lead 64 = .ok (.aload_n 0, 1) := by decide +kernel
theorem dX12_lead_65 : decode cX12_lead 65 = .ok (.aload_n 0, 1) := by decide +kernel
theorem dX12_lead_66 : decode cX12_lead 66 = .ok (.getfield 55, 3) := by decide +kernel
theorem dX12_lead_69 : decode cX12_lead 69 = .ok (.aload_n 0, 1) := by decide +kernel
theorem dX12_lead_70 : decode cX12_lead 70 = .ok (.getfield 17, 3) := by decide +kernel
theorem dX12_lead_73 : decode cX12_lead 73 = .ok (.bipush 66, 2) := by decide +kernel
theorem dX12_lead_75 : decode cX12_lead 75 = .ok (.iload_n 1, 1) := by decide +kernel
theorem dX12_lead_76 : decode cX12_lead 76 = .ok (.imul, 1) := by decide +kernel
theorem dX12_lead_77 : decode cX12_lead 77 = .ok (.iload_n 3, 1) := by decide +kernel
theorem dX12_lead_78 : decode cX12_lead 78 = .ok (.iadd, 1) := by decide +kernel
theorem dX12_lead_79 : decode cX12_lead 79 = .ok (.iaload, 1) := by decide +kernel
theorem dX12_lead_80 : decode cX12_lead 80 = .ok (.invokevirtual 167, 3) := by decide +kernel
theorem dX12_lead_83 : decode cX12_lead 83 = .ok (.iinc 3 1, 3) := by decide +kernel
theorem dX12_lead_86 : decode cX12_lead 86 = .ok (.goto (-27), 3) := by decide +kernel
theorem dX12_lead_89 : decode cX12_lead 89 = .ok (.aload_n 0, 1) := by decide +kernel
theorem dX12_lead_90 : decode cX12_lead 90 = .ok (.aload_n 0, 1) := by decide +kernel
theorem dX12_lead_91 : decode cX12_lead 91 = .ok (.getfield 55, 3) := by decide +kernel
theorem dX12_lead_94 : decode cX12_lead 94 = .ok (.invokevirtual 179, 3) := by decide +kernel
theorem dX12_lead_97 : decode cX12_lead 97 = .ok (.ireturn, 1) := by decide +kernel
set_option maxRecDepth 20000 in
theorem ggX12_head_X12_isTold : GoodIn wsX12_head wsX12_isTold := goodIn_r _ [6, 7, 35, 36, 37, 38, 39, 40, 41, 42, 43, 44, 45, 46, 47, 48, 49, 50, 51, 52, 53, 54, 55, 56, 57, 58, 59, 60, 61, 62, 63, 64, 65, 66, 67, 68, 69, 70, 71, 72] (by decide +kernel) (by decide +kernel)
set_option maxRecDepth 20000 in
theorem gX12_head_X12_isTold : GoodIn wsX12_head (wsV RX12 150 RX12 yX12_isTold wsX12_isTold) := goodIn_app (goodIn_of _ (by decide +kernel)) ggX12_head_X12_isTold
set_option maxRecDepth 20000 in
theorem ggX12_head_X12_throwsIf : GoodIn wsX12_head wsX12_throwsIf := goodIn_r _ [11, 12, 35, 36, 37, 38, 39, 40, 41, 42, 43, 44, 45, 46, 47, 48, 49, 50, 51, 52, 53, 54, 55, 56, 57, 58, 59, 60, 61, 62, 63, 64, 65, 66, 67, 68, 69, 70, 71, 72] (by decide +kernel) (by decide +kernel)
set_option maxRecDepth 20000 in
theorem gX12_head_X12_throwsIf : GoodIn wsX12_head (wsV RX12 134 RX12 yX12_throwsIf wsX12_throwsIf) := goodIn_app (goodIn_of _ (by decide +kernel)) ggX12_head_X12_throwsIf
set_option maxRecDepth 20000 in
theorem ggX12_head_X12_rounds : GoodIn wsX12_head wsX12_rounds := goodIn_r _ [16, 17, 35, 36, 37, 38, 39, 40, 41, 42, 43, 44, 45, 46, 47, 48, 49, 50, 51, 52, 53, 54, 55, 56, 57, 58, 59, 60, 61, 62, 63, 64, 65, 66, 67, 68, 69, 70, 71, 72] (by decide +kernel) (by decide +kernel)
set_option maxRecDepth 20000 in
theorem gX12_head_X12_rounds : GoodIn wsX12_head (wsV RX12 175 RX12 yX12_rounds wsX12_rounds) := goodIn_app (goodIn_of _ (by decide +kernel)) ggX12_head_X12_rounds
set_option maxRecDepth 20000 in
theorem ggX12_head_X12_ringLead : GoodIn wsX12_head wsX12_ringLead := goodIn_r _ [21, 7, 22, 23, 24, 25, 5, 26, 17, 27, 28, 29, 30, 35, 36, 37, 38, 39, 40, 41, 42, 43, 44, 45, 46, 47, 48, 49, 50, 51, 52, 53, 54, 55, 56, 57, 58, 59, 60, 61, 62, 63, 64, 65, 66, 67, 68, 69, 70, 71, 72] (by decide +kernel) (by decide +kernel)
set_option maxRecDepth 20000 in
theorem gX12_head_X12_ringLead : GoodIn wsX12_head (wsV RX12 183 RX12 yX12_ringLead wsX12_ringLead) := goodIn_app (goodIn_of _ (by decide +kernel)) ggX12_head_X12_ringLead
set_option maxRecDepth 20000 in
theorem ggX12_head_X12_number : GoodIn wsX12_head wsX12_number := goodIn_r _ [34, 17, 35, 36, 37, 38, 39, 40, 41, 42, 43, 44, 45, 46, 47, 48, 49, 50, 51, 52, 53, 54, 55, 56, 57, 58, 59, 60, 61, 62, 63, 64, 65, 66, 67, 68, 69, 70, 71, 72] (by decide +kernel) (by decide +kernel)
set_option maxRecDepth 20000 in
theorem gX12_head_X12_number : GoodIn wsX12_head (wsV RX12 179 RX12 yX12_number wsX12_number) := goodIn_app (goodIn_of _ (by decide +kernel)) ggX12_head_X12_number
theorem dX12_head_0 : decode cX12_head 0 = .ok (.aload_n 0, 1) := by decide +kernel
theorem dX12_head_1 : decode cX12_head 1 = .ok (.aload_n 0, 1) := by decide +kernel
theorem dX12_head_2 : decode cX12_head 2 = .ok (.iload_n 1, 1) := by decide +kernel
theorem dX12_head_3 : decode cX12_head 3 = .ok (.invokevirtual 150, 3) := by decide +kernel
theorem dX12_head_6 : decode cX12_head 6 = .ok (.ifCond .eq 12, 3) := by decide +kernel
theorem dX12_head_9 : decode cX12_head 9 = .ok (.iload_n 2, 1) := by decide +kernel
theorem dX12_head_10 : decode cX12_head 10 = .ok (.ifCond .lt 8, 3) := by decide +kernel
theorem dX12_head_13 : decode cX12_head 13 = .ok (.iload_n 2, 1) := by decide +kernel
theorem dX12_head_14 : decode cX12_head 14 = .ok (.iconst 2, 1) := by decide +kernel
theorem dX12_head_15 : decode cX12_head 15 = .ok (.if_icmp .le 7, 3) := by decide +kernel
theorem dX12_head_18 : decode cX12_head 18 = .ok (.iconst 1, 1) := by decide +kernel
theorem dX12_head_19 : decode cX12_head 19 = .ok (.goto 4, 3) := by decide +kernel
theorem dX12_head_22 : decode cX12_head 22 = .ok (.iconst 0, 1) := by decide +kernel
theorem dX12_head_23 : decode cX12_head 23 = .ok (.iconst 1, 1) := by decide +kernel
theorem dX12_head_24 : decode cX12_head 24 = .ok (.invokevirtual 134, 3) := by decide +kernel
theorem dX12_head_27 : decode cX12_head 27 = .ok (.ifCond .eq 5, 3) := by decide +kernel
theorem dX12_head_30 : decode cX12_head 30 = .ok (.iconst 0, 1) := by decide +kernel
theorem dX12_head_31 : decode cX12_head 31 = .ok (.ireturn, 1) := by decide +kernel
theorem dX12_head_32 : decode cX12_head 32 = .ok (.aload_n 0, 1) := by decide +kernel
theorem dX12_head_33 : decode cX12_head 33 = .ok (.aload_n 0, 1) := by decide +kernel
theorem dX12_head_34 : decode cX12_head 34 = .ok (.getfield 55, 3) := by decide +kernel
theorem dX12_head_37 : decode cX12_head 37 = .ok (.invokevirtual 175, 3) := by decide +kernel
theorem dX12_head_40 : decode cX12_head 40 = .ok (.aload_n 0, 1) := by decide +kernel
theorem dX12_head_41 : decode cX12_head 41 = .ok (.aload_n 0, 1) := by decide +kernel
theorem dX12_head_42 : decode cX12_head 42 = .ok (.getfield 55, 3) := by decide +kernel
theorem dX12_head_45 : decode cX12_head 45 = .ok (.iload_n 1, 1) := by decide +kernel
theorem dX12_head_46 : decode cX12_head 46 = .ok (.iload_n 2, 1) := by decide +kernel
theorem dX12_head_47 : decode cX12_head 47 = .ok (.invokevirtual 183, 3) := by decide +kernel
theorem dX12_head_50 : decode cX12_head 50 = .ok (.aload_n 0, 1) := by decide +kernel
theorem dX12_head_51 : decode cX12_head 51 = .ok (.aload_n 0, 1) := by decide +kernel
theorem dX12_head_52 : decode cX12_head 52 = .ok (.getfield 55, 3) := by decide +kernel
theorem dX12_head_55 : decode cX12_head 55 = .ok (.invokevirtual 179, 3) := by decide +kernel
theorem dX12_head_58 : decode cX12_head 58 = .ok (.ireturn, 1) := by decide +kernel
set_option maxRecDepth 20000 in
theorem ggX12_courseOf_X12_rounds : GoodIn wsX12_courseOf wsX12_rounds := goodIn_r _ [6, 7, 26, 27, 28, 29, 30, 31, 32, 33, 34, 35, 36, 37, 38, 39, 40, 41, 42, 43, 44, 45, 46, 47, 48, 49, 50, 51, 52, 53, 54, 55, 56, 57, 58, 59, 60, 61, 62, 63] (by decide +kernel) (by decide +kernel)
set_option maxRecDepth 20000 in
theorem gX12_courseOf_X12_rounds : GoodIn wsX12_courseOf (wsV RX12 175 RX12 yX12_rounds wsX12_rounds) := goodIn_app (goodIn_of _ (by decide +kernel)) ggX12_courseOf_X12_rounds
set_option maxRecDepth 20000 in
theorem ggX12_courseOf_X12_ringLead : GoodIn wsX12_courseOf wsX12_ringLead := goodIn_r _ [11, 12, 13, 14, 15, 16, 5, 17, 7, 18, 19, 20, 21, 26, 27, 28, 29, 30, 31, 32, 33, 34, 35, 36, 37, 38, 39, 40, 41, 42, 43, 44, 45, 46, 47, 48, 49, 50, 51, 52, 53, 54, 55, 56, 57, 58, 59, 60, 61, 62, 63] (by decide +kernel) (by decide +kernel)
set_option maxRecDepth 20000 in
theorem gX12_courseOf_X12_ringLead : GoodIn wsX12_courseOf (wsV RX12 183 RX12 yX12_ringLead wsX12_ringLead) := goodIn_app (goodIn_of _ (by decide +kernel)) ggX12_courseOf_X12_ringLead
set_option maxRecDepth 20000 in
theorem ggX12_courseOf_X12_isRounds : GoodIn wsX12_courseOf wsX12_isRounds := goodIn_r _ [25, 7, 26, 27, 28, 29, 30, 31, 32, 33, 34, 35, 36, 37, 38, 39, 40, 41, 42, 43, 44, 45, 46, 47, 48, 49, 50, 51, 52, 53, 54, 55, 56, 57, 58, 59, 60, 61, 62, 63] (by decide +kernel) (by decide +kernel)
set_option maxRecDepth 20000 in
theorem gX12_courseOf_X12_isRounds : GoodIn wsX12_courseOf (wsV RX12 187 RX12 yX12_isRounds wsX12_isRounds) := goodIn_app (goodIn_of _ (by decide +kernel)) ggX12_courseOf_X12_isRounds
theorem dX12_courseOf_0 : decode cX12_courseOf 0 = .ok (.aload_n 0, 1) := by decide +kernel
theorem dX12_courseOf_1 : decode cX12_courseOf 1 = .ok (.aload_n 0, 1) := by decide +kernel
theorem dX12_courseOf_2 : decode cX12_courseOf 2 = .ok (.getfield 55, 3) := by decide +kernel
theorem dX12_courseOf_5 : decode cX12_courseOf 5 = .ok (.invokevirtual 175, 3) := by decide +kernel
theorem dX12_courseOf_8 : decode cX12_courseOf 8 = .ok (.iconst 0, 1) := by decide +kernel
theorem dX12_courseOf_9 : decode cX12_courseOf 9 = .ok (.istore_n 2, 1) := by decide +kernel
theorem dX12_courseOf_10 : decode cX12_courseOf 10 = .ok (.aload_n 0, 1) := by decide +kernel
theorem dX12_courseOf_11 : decode cX12_courseOf 11 = .ok (.aload_n 0, 1) := by decide +kernel
theorem dX12_courseOf_12 : decode cX12_courseOf 12 = .ok (.getfield 55, 3) := by decide +kernel
theorem dX12_courseOf_15 : decode cX12_courseOf 15 = .ok (.iload_n 1, 1) := by decide +kernel
theorem dX12_courseOf_16 : decode cX12_courseOf 16 = .ok (.iconst 0, 1) := by decide +kernel
theorem dX12_courseOf_17 : decode cX12_courseOf 17 = .ok (.invokevirtual 183, 3) := by decide +kernel
theorem dX12_courseOf_20 : decode cX12_courseOf 20 = .ok (.iinc 2 1, 3) := by decide +kernel
theorem dX12_courseOf_23 : decode cX12_courseOf 23 = .ok (.aload_n 0, 1) := by decide +kernel
theorem dX12_courseOf_24 : decode cX12_courseOf 24 = .ok (.aload_n 0, 1) := by decide +kernel
theorem dX12_courseOf_25 : decode cX12_courseOf 25 = .ok (.getfield 55, 3) := by decide +kernel
theorem dX12_courseOf_28 : decode cX12_courseOf 28 = .ok (.invokevirtual 187, 3) := by decide +kernel
theorem dX12_courseOf_31 : decode cX12_courseOf 31 = .ok (.ifCond .eq (-21), 3) := by decide +kernel
theorem dX12_courseOf_34 : decode cX12_courseOf 34 = .ok (.iload_n 2, 1) := by decide +kernel
theorem dX12_courseOf_35 : decode cX12_courseOf 35 = .ok (.ireturn, 1) := by decide +kernel
set_option maxRecDepth 20000 in
theorem ggX12_course_X12_isTold : GoodIn wsX12_course wsX12_isTold := goodIn_r _ [5, 6, 39, 40, 41, 42, 43, 44, 45, 46, 47, 48, 49, 50, 51, 52, 53, 54, 55, 56, 57, 58, 59, 60, 61, 62, 63, 64, 65, 66, 67, 68, 69, 70, 71, 72, 73, 74, 75, 76] (by decide +kernel) (by decide +kernel)
set_option maxRecDepth 20000 in
theorem gX12_course_X12_isTold : GoodIn wsX12_course (wsV RX12 150 RX12 yX12_isTold wsX12_isTold) := goodIn_app (goodIn_of _ (by decide +kernel)) ggX12_course_X12_isTold
set_option maxRecDepth 20000 in
theorem ggX12_course_X12_throwsIf : GoodIn wsX12_course wsX12_throwsIf := goodIn_r _ [10, 11, 39, 40, 41, 42, 43, 44, 45, 46, 47, 48, 49, 50, 51, 52, 53, 54, 55, 56, 57, 58, 59, 60, 61, 62, 63, 64, 65, 66, 67, 68, 69, 70, 71, 72, 73, 74, 75, 76] (by decide +kernel) (by decide +kernel)
set_option maxRecDepth 20000 in
theorem gX12_course_X12_throwsIf : GoodIn wsX12_course (wsV RX12 134 RX12 yX12_throwsIf wsX12_throwsIf) := goodIn_app (goodIn_of _ (by decide +kernel)) ggX12_course_X12_throwsIf
set_option maxRecDepth 20000 in
theorem ggX12_course_X12_courseOf : GoodIn wsX12_course wsX12_courseOf := goodIn_r _ [15, 16, 17, 18, 19, 4, 20, 21, 22, 23, 24, 25, 6, 26, 27, 28, 29, 30, 31, 32, 33, 34, 35, 36, 37, 38, 39, 40, 41, 42, 43, 44, 45, 46, 47, 48, 49, 50, 51, 52, 53, 54, 55, 56, 57, 58, 59, 60, 61, 62, 63, 64, 65, 66, 67, 68, 69, 70, 71, 72, 73, 74, 75, 76] (by decide +kernel) (by decide +kernel)
set_option maxRecDepth 20000 in
theorem gX12_course_X12_courseOf : GoodIn wsX12_course (wsV RX12 191 RX12 yX12_courseOf wsX12_courseOf) := goodIn_app (goodIn_of _ (by decide +kernel)) ggX12_course_X12_courseOf
theorem dX12_course_0 : decode cX12_course 0 = .ok (.aload_n 0, 1) := by decide +kernel
theorem dX12_course_1 : decode cX12_course 1 = .ok (.aload_n 0, 1) := by decide +kernel
theorem dX12_course_2 : decode cX12_course 2 = .ok (.iload_n 1, 1) := by decide +kernel
theorem dX12_course_3 : decode cX12_course 3 = .ok (.invokevirtual 150, 3) := by decide +kernel
theorem dX12_course_6 : decode cX12_course 6 = .ok (.ifCond .ne 7, 3) := by decide +kernel
theorem dX12_course_9 : decode cX12_course 9 = .ok (.iconst 1, 1) := by decide +kernel
theorem dX12_course_10 : decode cX12_course 10 = .ok (.goto 4, 3) := by decide +kernel
theorem dX12_course_13 : decode cX12_course 13 = .ok (.iconst 0, 1) := by decide +kernel
theorem dX12_course_14 : decode cX12_course 14 = .ok (.iconst 1, 1) := by decide +kernel
theorem dX12_course_15 : decode cX12_course 15 = .ok (.invokevirtual 134, 3) := by decide +kernel
theorem dX12_course_18 : decode cX12_course 18 = .ok (.ifCond .eq 7, 3) := by decide +kernel
theorem dX12_course_21 : decode cX12_course 21 = .ok (.iconst 0, 1) := by decide +kernel
theorem dX12_course_22 : decode cX12_course 22 = .ok (.goto 8, 3) := by decide +kernel
theorem dX12_course_25 : decode cX12_course 25 = .ok (.aload_n 0, 1) := by decide +kernel
theorem dX12_course_26 : decode cX12_course 26 = .ok (.iload_n 1, 1) := by decide +kernel
theorem dX12_course_27 : decode cX12_course 27 = .ok (.invokevirtual 191, 3) := by decide +kernel
theorem dX12_course_30 : decode cX12_course 30 = .ok (.ireturn, 1) := by decide +kernel
set_option maxRecDepth 20000 in
theorem ggX12_line_X12_isTold : GoodIn wsX12_line wsX12_isTold := goodIn_r _ [9, 2, 39, 40, 41, 42, 43, 44, 45, 46, 47, 48, 49, 50, 51, 52, 53, 54, 55, 56, 57, 58, 59, 60, 61, 62, 63, 64, 65, 66, 67, 68, 69, 70, 71, 72, 73, 74, 75, 76] (by decide +kernel) (by decide +kernel)
set_option maxRecDepth 20000 in
theorem gX12_line_X12_isTold : GoodIn wsX12_line (wsV RX12 150 RX12 yX12_isTold wsX12_isTold) := goodIn_app (goodIn_of _ (by decide +kernel)) ggX12_line_X12_isTold
set_option maxRecDepth 20000 in
theorem ggX12_line_X12_throwsIf : GoodIn wsX12_line wsX12_throwsIf := goodIn_r _ [13, 14, 39, 40, 41, 42, 43, 44, 45, 46, 47, 48, 49, 50, 51, 52, 53, 54, 55, 56, 57, 58, 59, 60, 61, 62, 63, 64, 65, 66, 67, 68, 69, 70, 71, 72, 73, 74, 75, 76] (by decide +kernel) (by decide +kernel)
set_option maxRecDepth 20000 in
theorem gX12_line_X12_throwsIf : GoodIn wsX12_line (wsV RX12 134 RX12 yX12_throwsIf wsX12_throwsIf) := goodIn_app (goodIn_of _ (by decide +kernel)) ggX12_line_X12_throwsIf
set_option maxRecDepth 20000 in
theorem ggX12_line_X12_courseOf : GoodIn wsX12_line wsX12_courseOf := goodIn_r _ [18, 3, 19, 20, 21, 8, 22, 1, 23, 24, 25, 26, 2, 4, 27, 28, 29, 30, 31, 32, 33, 34, 35, 36, 37, 38, 39, 40, 41, 42, 43, 44, 45, 46, 47, 48, 49, 50, 51, 52, 53, 54, 55, 56, 57, 58, 59, 60, 61, 62, 63, 64, 65, 66, 67, 68, 69, 70, 71, 72, 73, 74, 75, 76] (by decide +kernel) (by decide +kernel)
set_option maxRecDepth 20000 in
theorem gX12_line_X12_courseOf : GoodIn wsX12_line (wsV RX12 191 RX12 yX12_courseOf wsX12_courseOf) := goodIn_app (goodIn_of _ (by decide +kernel)) ggX12_line_X12_courseOf
