theorem dX12_init_0 : decode cX12_init 0 = .ok (.aload_n 0, 1) := by decide +kernel
theorem dX12_init_1 : decode cX12_init 1 = .ok (.invokespecial 1, 3) := by decide +kernel
theorem dX12_init_4 : decode cX12_init 4 = .ok (.aload_n 0, 1) := by decide +kernel
theorem dX12_init_5 : decode cX12_init 5 = .ok (.sipush 9863, 3) := by decide +kernel
theorem dX12_init_8 : decode cX12_init 8 = .ok (.newarray .int, 2) := by decide +kernel
theorem dX12_init_10 : decode cX12_init 10 = .ok (.putfield 7, 3) := by decide +kernel
theorem dX12_init_13 : decode cX12_init 13 = .ok (.aload_n 0, 1) := by decide +kernel
theorem dX12_init_14 : decode cX12_init 14 = .ok (.sipush 9863, 3) := by decide +kernel
theorem dX12_init_17 : decode cX12_init 17 = .ok (.newarray .int, 2) := by decide +kernel
theorem dX12_init_19 : decode cX12_init 19 = .ok (.putfield 13, 3) := by decide +kernel
theorem dX12_init_22 : decode cX12_init 22 = .ok (.aload_n 0, 1) := by decide +kernel
theorem dX12_init_23 : decode cX12_init 23 = .ok (.bipush 60, 2) := by decide +kernel
theorem dX12_init_25 : decode cX12_init 25 = .ok (.newarray .int, 2) := by decide +kernel
theorem dX12_init_27 : decode cX12_init 27 = .ok (.putfield 16, 3) := by decide +kernel
theorem dX12_init_30 : decode cX12_init 30 = .ok (.aload_n 0, 1) := by decide +kernel
theorem dX12_init_31 : decode cX12_init 31 = .ok (.bipush 60, 2) := by decide +kernel
theorem dX12_init_33 : decode cX12_init 33 = .ok (.newarray .int, 2) := by decide +kernel
theorem dX12_init_35 : decode cX12_init 35 = .ok (.putfield 19, 3) := by decide +kernel
theorem dX12_init_38 : decode cX12_init 38 = .ok (.aload_n 0, 1) := by decide +kernel
theorem dX12_init_39 : decode cX12_init 39 = .ok (.bipush 60, 2) := by decide +kernel
theorem dX12_init_41 : decode cX12_init 41 = .ok (.newarray .int, 2) := by decide +kernel
theorem dX12_init_43 : decode cX12_init 43 = .ok (.putfield 22, 3) := by decide +kernel
theorem dX12_init_46 : decode cX12_init 46 = .ok (.aload_n 0, 1) := by decide +kernel
theorem dX12_init_47 : decode cX12_init 47 = .ok (.bipush 60, 2) := by decide +kernel
theorem dX12_init_49 : decode cX12_init 49 = .ok (.newarray .int, 2) := by decide +kernel
theorem dX12_init_51 : decode cX12_init 51 = .ok (.putfield 25, 3) := by decide +kernel
theorem dX12_init_54 : decode cX12_init 54 = .ok (.aload_n 0, 1) := by decide +kernel
theorem dX12_init_55 : decode cX12_init 55 = .ok (.bipush 60, 2) := by decide +kernel
theorem dX12_init_57 : decode cX12_init 57 = .ok (.newarray .int, 2) := by decide +kernel
theorem dX12_init_59 : decode cX12_init 59 = .ok (.putfield 28, 3) := by decide +kernel
theorem dX12_init_62 : decode cX12_init 62 = .ok (.aload_n 0, 1) := by decide +kernel
theorem dX12_init_63 : decode cX12_init 63 = .ok (.bipush 6, 2) := by decide +kernel
theorem dX12_init_65 : decode cX12_init 65 = .ok (.newarray .int, 2) := by decide +kernel
theorem dX12_init_67 : decode cX12_init 67 = .ok (.putfield 31, 3) := by decide +kernel
theorem dX12_init_70 : decode cX12_init 70 = .ok (.aload_n 0, 1) := by decide +kernel
theorem dX12_init_71 : decode cX12_init 71 = .ok (.bipush 8, 2) := by decide +kernel
theorem dX12_init_73 : decode cX12_init 73 = .ok (.newarray .int, 2) := by decide +kernel
theorem dX12_init_75 : decode cX12_init 75 = .ok (.putfield 34, 3) := by decide +kernel
theorem dX12_init_78 : decode cX12_init 78 = .ok (.aload_n 0, 1) := by decide +kernel
theorem dX12_init_79 : decode cX12_init 79 = .ok (.bipush 64, 2) := by decide +kernel
theorem dX12_init_81 : decode cX12_init 81 = .ok (.newarray .int, 2) := by decide +kernel
theorem dX12_init_83 : decode cX12_init 83 = .ok (.putfield 37, 3) := by decide +kernel
theorem dX12_init_86 : decode cX12_init 86 = .ok (.aload_n 0, 1) := by decide +kernel
theorem dX12_init_87 : decode cX12_init 87 = .ok (.bipush 24, 2) := by decide +kernel
theorem dX12_init_89 : decode cX12_init 89 = .ok (.newarray .int, 2) := by decide +kernel
theorem dX12_init_91 : decode cX12_init 91 = .ok (.putfield 40, 3) := by decide +kernel
theorem dX12_init_94 : decode cX12_init 94 = .ok (.aload_n 0, 1) := by decide +kernel
theorem dX12_init_95 : decode cX12_init 95 = .ok (.bipush 8, 2) := by decide +kernel
theorem dX12_init_97 : decode cX12_init 97 = .ok (.newarray .int, 2) := by decide +kernel
theorem dX12_init_99 : decode cX12_init 99 = .ok (.putfield 43, 3) := by decide +kernel
theorem dX12_init_102 : decode cX12_init 102 = .ok (.aload_n 0, 1) := by decide +kernel
theorem dX12_init_103 : decode cX12_init 103 = .ok (.bipush 48, 2) := by decide +kernel
theorem dX12_init_105 : decode cX12_init 105 = .ok (.newarray .int, 2) := by decide +kernel
theorem dX12_init_107 : decode cX12_init 107 = .ok (.putfield 46, 3) := by decide +kernel
theorem dX12_init_110 : decode cX12_init 110 = .ok (.aload_n 0, 1) := by decide +kernel
theorem dX12_init_111 : decode cX12_init 111 = .ok (.bipush 8, 2) := by decide +kernel
theorem dX12_init_113 : decode cX12_init 113 = .ok (.newarray .int, 2) := by decide +kernel
theorem dX12_init_115 : decode cX12_init 115 = .ok (.putfield 49, 3) := by decide +kernel
theorem dX12_init_118 : decode cX12_init 118 = .ok (.aload_n 0, 1) := by decide +kernel
theorem dX12_init_119 : decode cX12_init 119 = .ok (.iconst 3, 1) := by decide +kernel
theorem dX12_init_120 : decode cX12_init 120 = .ok (.newarray .int, 2) := by decide +kernel
theorem dX12_init_122 : decode cX12_init 122 = .ok (.putfield 52, 3) := by decide +kernel
theorem dX12_init_125 : decode cX12_init 125 = .ok (.aload_n 0, 1) := by decide +kernel
theorem dX12_init_126 : decode cX12_init 126 = .ok (.bipush 6, 2) := by decide +kernel
theorem dX12_init_128 : decode cX12_init 128 = .ok (.newarray .int, 2) := by decide +kernel
theorem dX12_init_130 : decode cX12_init 130 = .ok (.putfield 55, 3) := by decide +kernel
theorem dX12_init_133 : decode cX12_init 133 = .ok (.aload_n 0, 1) := by decide +kernel
theorem dX12_init_134 : decode cX12_init 134 = .ok (.sipush 18000, 3) := by decide +kernel
theorem dX12_init_137 : decode cX12_init 137 = .ok (.newarray .int, 2) := by decide +kernel
theorem dX12_init_139 : decode cX12_init 139 = .ok (.putfield 58, 3) := by decide +kernel
theorem dX12_init_142 : decode cX12_init 142 = .ok (.aload_n 0, 1) := by decide +kernel
theorem dX12_init_143 : decode cX12_init 143 = .ok (.sipush 2000, 3) := by decide +kernel
theorem dX12_init_146 : decode cX12_init 146 = .ok (.newarray .int, 2) := by decide +kernel
theorem dX12_init_148 : decode cX12_init 148 = .ok (.putfield 61, 3) := by decide +kernel
theorem dX12_init_151 : decode cX12_init 151 = .ok (.aload_n 0, 1) := by decide +kernel
theorem dX12_init_152 : decode cX12_init 152 = .ok (.iconst 4, 1) := by decide +kernel
theorem dX12_init_153 : decode cX12_init 153 = .ok (.newarray .int, 2) := by decide +kernel
theorem dX12_init_155 : decode cX12_init 155 = .ok (.putfield 64, 3) := by decide +kernel
theorem dX12_init_158 : decode cX12_init 158 = .ok (.aload_n 0, 1) := by decide +kernel
theorem dX12_init_159 : decode cX12_init 159 = .ok (.sipush 2000, 3) := by decide +kernel
theorem dX12_init_162 : decode cX12_init 162 = .ok (.newarray .int, 2) := by decide +kernel
theorem dX12_init_164 : decode cX12_init 164 = .ok (.putfield 67, 3) := by decide +kernel
theorem dX12_init_167 : decode cX12_init 167 = .ok (.aload_n 0, 1) := by decide +kernel
theorem dX12_init_168 : decode cX12_init 168 = .ok (.iconst 4, 1) := by decide +kernel
theorem dX12_init_169 : decode cX12_init 169 = .ok (.newarray .int, 2) := by decide +kernel
theorem dX12_init_171 : decode cX12_init 171 = .ok (.putfield 70, 3) := by decide +kernel
theorem dX12_init_174 : decode cX12_init 174 = .ok (.aload_n 0, 1) := by decide +kernel
theorem dX12_init_175 : decode cX12_init 175 = .ok (.sipush 2000, 3) := by decide +kernel
theorem dX12_init_178 : decode cX12_init 178 = .ok (.newarray .int, 2) := by decide +kernel
theorem dX12_init_180 : decode cX12_init 180 = .ok (.putfield 73, 3) := by decide +kernel
theorem dX12_init_183 : decode cX12_init 183 = .ok (.aload_n 0, 1) := by decide +kernel
theorem dX12_init_184 : decode cX12_init 184 = .ok (.iconst 4, 1) := by decide +kernel
theorem dX12_init_185 : decode cX12_init 185 = .ok (.newarray .int, 2) := by decide +kernel
theorem dX12_init_187 : decode cX12_init 187 = .ok (.putfield 76, 3) := by decide +kernel
theorem dX12_init_190 : decode cX12_init 190 = .ok (.aload_n 0, 1) := by decide +kernel
theorem dX12_init_191 : decode cX12_init 191 = .ok (.sipush 2000, 3) := by decide +kernel
theorem dX12_init_194 : decode cX12_init 194 = .ok (.newarray .int, 2) := by decide +kernel
theorem dX12_init_196 : decode cX12_init 196 = .ok (.putfield 79, 3) := by decide +kernel
theorem dX12_init_199 : decode cX12_init 199 = .ok (.aload_n 0, 1) := by decide +kernel
theorem dX12_init_200 : decode cX12_init 200 = .ok (.iconst 4, 1) := by decide +kernel
theorem dX12_init_201 : decode cX12_init 201 = .ok (.newarray .int, 2) := by decide +kernel
theorem dX12_init_203 : decode cX12_init 203 = .ok (.putfield 82, 3) := by decide +kernel
theorem dX12_init_206 : decode cX12_init 206 = .ok (.aload_n 0, 1) := by decide +kernel
theorem dX12_init_207 : decode cX12_init 207 = .ok (.iconst 4, 1) := by decide +kernel
theorem dX12_init_208 : decode cX12_init 208 = .ok (.newarray .int, 2) := by decide +kernel
theorem dX12_init_210 : decode cX12_init 210 = .ok (.putfield 85, 3) := by decide +kernel
theorem dX12_init_213 : decode cX12_init 213 = .ok (.aload_n 0, 1) := by decide +kernel
theorem dX12_init_214 : decode cX12_init 214 = .ok (.sipush 900, 3) := by decide +kernel
theorem dX12_init_217 : decode cX12_init 217 = .ok (.newarray .int, 2) := by decide +kernel
theorem dX12_init_219 : decode cX12_init 219 = .ok (.putfield 88, 3) := by decide +kernel
theorem dX12_init_222 : decode cX12_init 222 = .ok (.aload_n 0, 1) := by decide +kernel
theorem dX12_init_223 : decode cX12_init 223 = .ok (.sipush 6000, 3) := by decide +kernel
theorem dX12_init_226 : decode cX12_init 226 = .ok (.newarray .int, 2) := by decide +kernel
theorem dX12_init_228 : decode cX12_init 228 = .ok (.putfield 91, 3) := by decide +kernel
theorem dX12_init_231 : decode cX12_init 231 = .ok (.aload_n 0, 1) := by decide +kernel
theorem dX12_init_232 : decode cX12_init 232 = .ok (.iconst 4, 1) := by decide +kernel
theorem dX12_init_233 : decode cX12_init 233 = .ok (.newarray .int, 2) := by decide +kernel
theorem dX12_init_235 : decode cX12_init 235 = .ok (.putfield 94, 3) := by decide +kernel
theorem dX12_init_238 : decode cX12_init 238 = .ok (.aload_n 0, 1) := by decide +kernel
theorem dX12_init_239 : decode cX12_init 239 = .ok (.iconst 4, 1) := by decide +kernel
theorem dX12_init_240 : decode cX12_init 240 = .ok (.newarray .int, 2) := by decide +kernel
theorem dX12_init_242 : decode cX12_init 242 = .ok (.putfield 97, 3) := by decide +kernel
theorem dX12_init_245 : decode cX12_init 245 = .ok (.aload_n 0, 1) := by decide +kernel
theorem dX12_init_246 : decode cX12_init 246 = .ok (.iconst 4, 1) := by decide +kernel
theorem dX12_init_247 : decode cX12_init 247 = .ok (.newarray .int, 2) := by decide +kernel
theorem dX12_init_249 : decode cX12_init 249 = .ok (.putfield 100, 3) := by decide +kernel
theorem dX12_init_252 : decode cX12_init 252 = .ok (.aload_n 0, 1) := by decide +kernel
theorem dX12_init_253 : decode cX12_init 253 = .ok (.bipush 70, 2) := by decide +kernel
theorem dX12_init_255 : decode cX12_init 255 = .ok (.newarray .int, 2) := by decide +kernel
theorem dX12_init_257 : decode cX12_init 257 = .ok (.putfield 103, 3) := by decide +kernel
theorem dX12_init_260 : decode cX12_init 260 = .ok (.aload_n 0, 1) := by decide +kernel
theorem dX12_init_261 : decode cX12_init 261 = .ok (.bipush 70, 2) := by decide +kernel
theorem dX12_init_263 : decode cX12_init 263 = .ok (.newarray .int, 2) := by decide +kernel
theorem dX12_init_265 : decode cX12_init 265 = .ok (.putfield 106, 3) := by decide +kernel
theorem dX12_init_268 : decode cX12_init 268 = .ok (.aload_n 0, 1) := by decide +kernel
theorem dX12_init_269 : decode cX12_init 269 = .ok (.sipush 1400, 3) := by decide +kernel
theorem dX12_init_272 : decode cX12_init 272 = .ok (.newarray .int, 2) := by decide +kernel
theorem dX12_init_274 : decode cX12_init 274 = .ok (.putfield 109, 3) := by decide +kernel
theorem dX12_init_277 : decode cX12_init 277 = .ok (.aload_n 0, 1) := by decide +kernel
theorem dX12_init_278 : decode cX12_init 278 = .ok (.bipush 8, 2) := by decide +kernel
theorem dX12_init_280 : decode cX12_init 280 = .ok (.newarray .int, 2) := by decide +kernel
theorem dX12_init_282 : decode cX12_init 282 = .ok (.putfield 112, 3) := by decide +kernel
theorem dX12_init_285 : decode cX12_init 285 = .ok (.aload_n 0, 1) := by decide +kernel
theorem dX12_init_286 : decode cX12_init 286 = .ok (.sipush 170, 3) := by decide +kernel
theorem dX12_init_289 : decode cX12_init 289 = .ok (.newarray .int, 2) := by decide +kernel
theorem dX12_init_291 : decode cX12_init 291 = .ok (.putfield 115, 3) := by decide +kernel
theorem dX12_init_294 : decode cX12_init 294 = .ok (.iconst 0, 1) := by decide +kernel
theorem dX12_init_295 : decode cX12_init 295 = .ok (.istore_n 1, 1) := by decide +kernel
theorem dX12_init_296 : decode cX12_init 296 = .ok (.iload_n 1, 1) := by decide +kernel
theorem dX12_init_297 : decode cX12_init 297 = .ok (.bipush 6, 2) := by decide +kernel
theorem dX12_init_299 : decode cX12_init 299 = .ok (.if_icmp .ge 16, 3) := by decide +kernel
theorem dX12_init_302 : decode cX12_init 302 = .ok (.aload_n 0, 1) := by decide +kernel
theorem dX12_init_303 : decode cX12_init 303 = .ok (.getfield 31, 3) := by decide +kernel
theorem dX12_init_306 : decode cX12_init 306 = .ok (.iload_n 1, 1) := by decide +kernel
theorem dX12_init_307 : decode cX12_init 307 = .ok (.iconst (-1), 1) := by decide +kernel
theorem dX12_init_308 : decode cX12_init 308 = .ok (.iastore, 1) := by decide +kernel
theorem dX12_init_309 : decode cX12_init 309 = .ok (.iinc 1 1, 3) := by decide +kernel
theorem dX12_init_312 : decode cX12_init 312 = .ok (.goto (-16), 3) := by decide +kernel
theorem dX12_init_315 : decode cX12_init 315 = .ok (.aload_n 0, 1) := by decide +kernel
theorem dX12_init_316 : decode cX12_init 316 = .ok (.getfield 7, 3) := by decide +kernel
theorem dX12_init_319 : decode cX12_init 319 = .ok (.sipush 7038, 3) := by decide +kernel
theorem dX12_init_322 : decode cX12_init 322 = .ok (.iconst 1, 1) := by decide +kernel
theorem dX12_init_323 : decode cX12_init 323 = .ok (.iastore, 1) := by decide +kernel
theorem dX12_init_324 : decode cX12_init 324 = .ok (.iconst 0, 1) := by decide +kernel
theorem dX12_init_325 : decode cX12_init 325 = .ok (.istore_n 1, 1) := by decide +kernel
theorem dX12_init_326 : decode cX12_init 326 = .ok (.iload_n 1, 1) := by decide +kernel
theorem dX12_init_327 : decode cX12_init 327 = .ok (.bipush 60, 2) := by decide +kernel
theorem dX12_init_329 : decode cX12_init 329 = .ok (.if_icmp .ge 29, 3) := by decide +kernel
theorem dX12_init_332 : decode cX12_init 332 = .ok (.aload_n 0, 1) := by decide +kernel
theorem dX12_init_333 : decode cX12_init 333 = .ok (.getfield 7, 3) := by decide +kernel
theorem dX12_init_336 : decode cX12_init 336 = .ok (.bipush 61, 2) := by decide +kernel
theorem dX12_init_338 : decode cX12_init 338 = .ok (.iload_n 1, 1) := by decide +kernel
theorem dX12_init_339 : decode cX12_init 339 = .ok (.iadd, 1) := by decide +kernel
theorem dX12_init_340 : decode cX12_init 340 = .ok (.bipush 100, 2) := by decide +kernel
theorem dX12_init_342 : decode cX12_init 342 = .ok (.iastore, 1) := by decide +kernel
theorem dX12_init_343 : decode cX12_init 343 = .ok (.aload_n 0, 1) := by decide +kernel
theorem dX12_init_344 : decode cX12_init 344 = .ok (.getfield 7, 3) := by decide +kernel
theorem dX12_init_347 : decode cX12_init 347 = .ok (.iconst 1, 1) := by decide +kernel
theorem dX12_init_348 : decode cX12_init 348 = .ok (.iload_n 1, 1) := by decide +kernel
theorem dX12_init_349 : decode cX12_init 349 = .ok (.iadd, 1) := by decide +kernel
theorem dX12_init_350 : decode cX12_init 350 = .ok (.iload_n 1, 1) := by decide +kernel
theorem dX12_init_351 : decode cX12_init 351 = .ok (.iastore, 1) := by decide +kernel
theorem dX12_init_352 : decode cX12_init 352 = .ok (.iinc 1 1, 3) := by decide +kernel
theorem dX12_init_355 : decode cX12_init 355 = .ok (.goto (-29), 3) := by decide +kernel
theorem dX12_init_358 : decode cX12_init 358 = .ok (.return_, 1) := by decide +kernel
theorem dX12_thrown_0 : decode cX12_thrown 0 = .ok (.aload_n 0, 1) := by decide +kernel
theorem dX12_thrown_1 : decode cX12_thrown 1 = .ok (.getfield 118, 3) := by decide +kernel
theorem dX12_thrown_4 : decode cX12_thrown 4 = .ok (.ireturn, 1) := by decide +kernel
theorem dX12_stop_0 : decode cX12_stop 0 = .ok (.aload_n 0, 1) := by decide +kernel
theorem dX12_stop_1 : decode cX12_stop 1 = .ok (.iload_n 1, 1) := by decide +kernel
theorem dX12_stop_2 : decode cX12_stop 2 = .ok (.putfield 118, 3) := by decide +kernel
theorem dX12_stop_5 : decode cX12_stop 5 = .ok (.iconst 0, 1) := by decide +kernel
theorem dX12_stop_6 : decode cX12_stop 6 = .ok (.ireturn, 1) := by decide +kernel
theorem dX12_in_0 : decode cX12_in 0 = .ok (.iload_n 0, 1) := by decide +kernel
theorem dX12_in_1 : decode cX12_in 1 = .ok (.iload_n 1, 1) := by decide +kernel
theorem dX12_in_2 : decode cX12_in 2 = .ok (.if_icmp .lt 12, 3) := by decide +kernel
theorem dX12_in_5 : decode cX12_in 5 = .ok (.iload_n 0, 1) := by decide +kernel
theorem dX12_in_6 : decode cX12_in 6 = .ok (.iload_n 2, 1) := by decide +kernel
theorem dX12_in_7 : decode cX12_in 7 = .ok (.if_icmp .gt 7, 3) := by decide +kernel
theorem dX12_in_10 : decode cX12_in 10 = .ok (.iconst 1, 1) := by decide +kernel
theorem dX12_in_11 : decode cX12_in 11 = .ok (.goto 4, 3) := by decide +kernel
theorem dX12_in_14 : decode cX12_in 14 = .ok (.iconst 0, 1) := by decide +kernel
theorem dX12_in_15 : decode cX12_in 15 = .ok (.ireturn, 1) := by decide +kernel
theorem dX12_isValue_0 : decode cX12_isValue 0 = .ok (.iload_n 0, 1) := by decide +kernel
theorem dX12_isValue_1 : decode cX12_isValue 1 = .ok (.bipush (-99), 2) := by decide +kernel
theorem dX12_isValue_3 : decode cX12_isValue 3 = .ok (.bipush 99, 2) := by decide +kernel
theorem dX12_isValue_5 : decode cX12_isValue 5 = .ok (.invokestatic 122, 3) := by decide +kernel
theorem dX12_isValue_8 : decode cX12_isValue 8 = .ok (.ireturn, 1) := by decide +kernel
theorem dX12_isTerm_0 : decode cX12_isTerm 0 = .ok (.iload_n 0, 1) := by decide +kernel
theorem dX12_isTerm_1 : decode cX12_isTerm 1 = .ok (.invokestatic 126, 3) := by decide +kernel
theorem dX12_isTerm_4 : decode cX12_isTerm 4 = .ok (.ifCond .ne 16, 3) := by decide +kernel
theorem dX12_isTerm_7 : decode cX12_isTerm 7 = .ok (.iload_n 0, 1) := by decide +kernel
theorem dX12_isTerm_8 : decode cX12_isTerm 8 = .ok (.sipush 200, 3) := by decide +kernel
theorem dX12_isTerm_11 : decode cX12_isTerm 11 = .ok (.sipush 203, 3) := by decide +kernel
theorem dX12_isTerm_14 : decode cX12_isTerm 14 = .ok (.invokestatic 122, 3) := by decide +kernel
theorem dX12_isTerm_17 : decode cX12_isTerm 17 = .ok (.ifCond .eq 7, 3) := by decide +kernel
theorem dX12_isTerm_20 : decode cX12_isTerm 20 = .ok (.iconst 1, 1) := by decide +kernel
theorem dX12_isTerm_21 : decode cX12_isTerm 21 = .ok (.goto 4, 3) := by decide +kernel
theorem dX12_isTerm_24 : decode cX12_isTerm 24 = .ok (.iconst 0, 1) := by decide +kernel
theorem dX12_isTerm_25 : decode cX12_isTerm 25 = .ok (.ireturn, 1) := by decide +kernel
theorem dX12_isCondition_0 : decode cX12_isCondition 0 = .ok (.iload_n 0, 1) := by decide +kernel
theorem dX12_isCondition_1 : decode cX12_isCondition 1 = .ok (.iconst 0, 1) := by decide +kernel
theorem dX12_isCondition_2 : decode cX12_isCondition 2 = .ok (.iconst 3, 1) := by decide +kernel
theorem dX12_isCondition_3 : decode cX12_isCondition 3 = .ok (.invokestatic 122, 3) := by decide +kernel
theorem dX12_isCondition_6 : decode cX12_isCondition 6 = .ok (.ifCond .ne 14, 3) := by decide +kernel
theorem dX12_isCondition_9 : decode cX12_isCondition 9 = .ok (.iload_n 0, 1) := by decide +kernel
theorem dX12_isCondition_10 : decode cX12_isCondition 10 = .ok (.bipush 10, 2) := by decide +kernel
theorem dX12_isCondition_12 : decode cX12_isCondition 12 = .ok (.bipush 15, 2) := by decide +kernel
theorem dX12_isCondition_14 : decode cX12_isCondition 14 = .ok (.invokestatic 122, 3) := by decide +kernel
theorem dX12_isCondition_17 : decode cX12_isCondition 17 = .ok (.ifCond .eq 7, 3) := by decide +kernel
theorem dX12_isCondition_20 : decode cX12_isCondition 20 = .ok (.iconst 1, 1) := by decide +kernel
theorem dX12_isCondition_21 : decode cX12_isCondition 21 = .ok (.goto 4, 3) := by decide +kernel
theorem dX12_isCondition_24 : decode cX12_isCondition 24 = .ok (.iconst 0, 1) := by decide +kernel
theorem dX12_isCondition_25 : decode cX12_isCondition 25 = .ok (.ireturn, 1) := by decide +kernel
theorem dX12_isNode_0 : decode cX12_isNode 0 = .ok (.iload_n 1, 1) := by decide +kernel
theorem dX12_isNode_1 : decode cX12_isNode 1 = .ok (.iconst 0, 1) := by decide +kernel
theorem dX12_isNode_2 : decode cX12_isNode 2 = .ok (.aload_n 0, 1) := by decide +kernel
theorem dX12_isNode_3 : decode cX12_isNode 3 = .ok (.getfield 130, 3) := by decide +kernel
theorem dX12_isNode_6 : decode cX12_isNode 6 = .ok (.iconst 1, 1) := by decide +kernel
theorem dX12_isNode_7 : decode cX12_isNode 7 = .ok (.isub, 1) := by decide +kernel
theorem dX12_isNode_8 : decode cX12_isNode 8 = .ok (.invokestatic 122, 3) := by decide +kernel
theorem dX12_isNode_11 : decode cX12_isNode 11 = .ok (.ireturn, 1) := by decide +kernel
theorem dX12_makeVariable_0 : decode cX12_makeVariable 0 = .ok (.aload_n 0, 1) := by decide +kernel
theorem dX12_makeVariable_1 : decode cX12_makeVariable 1 = .ok (.getfield 7, 3) := by decide +kernel
theorem dX12_makeVariable_4 : decode cX12_makeVariable 4 = .ok (.iconst 0, 1) := by decide +kernel
theorem dX12_makeVariable_5 : decode cX12_makeVariable 5 = .ok (.iaload, 1) := by decide +kernel
theorem dX12_makeVariable_6 : decode cX12_makeVariable 6 = .ok (.istore_n 1, 1) := by decide +kernel
theorem dX12_makeVariable_7 : decode cX12_makeVariable 7 = .ok (.iload_n 1, 1) := by decide +kernel
theorem dX12_makeVariable_8 : decode cX12_makeVariable 8 = .ok (.bipush 60, 2) := by decide +kernel
theorem dX12_makeVariable_10 : decode cX12_makeVariable 10 = .ok (.if_icmp .ne 10, 3) := by decide +kernel
theorem dX12_makeVariable_13 : decode cX12_makeVariable 13 = .ok (.aload_n 0, 1) := by decide +kernel
theorem dX12_makeVariable_14 : decode cX12_makeVariable 14 = .ok (.iconst 1, 1) := by decide +kernel
theorem dX12_makeVariable_15 : decode cX12_makeVariable 15 = .ok (.putfield 133, 3) := by decide +kernel
theorem dX12_makeVariable_18 : decode cX12_makeVariable 18 = .ok (.iconst 0, 1) := by decide +kernel
theorem dX12_makeVariable_19 : decode cX12_makeVariable 19 = .ok (.ireturn, 1) := by decide +kernel
theorem dX12_makeVariable_20 : decode cX12_makeVariable 20 = .ok (.aload_n 0, 1) := by decide +kernel
theorem dX12_makeVariable_21 : decode cX12_makeVariable 21 = .ok (.getfield 7, 3) := by decide +kernel
theorem dX12_makeVariable_24 : decode cX12_makeVariable 24 = .ok (.iconst 1, 1) := by decide +kernel
theorem dX12_makeVariable_25 : decode cX12_makeVariable 25 = .ok (.iload_n 1, 1) := by decide +kernel
theorem dX12_makeVariable_26 : decode cX12_makeVariable 26 = .ok (.iadd, 1) := by decide +kernel
theorem dX12_makeVariable_27 : decode cX12_makeVariable 27 = .ok (.iload_n 1, 1) := by decide +kernel
theorem dX12_makeVariable_28 : decode cX12_makeVariable 28 = .ok (.iastore, 1) := by decide +kernel
theorem dX12_makeVariable_29 : decode cX12_makeVariable 29 = .ok (.aload_n 0, 1) := by decide +kernel
theorem dX12_makeVariable_30 : decode cX12_makeVariable 30 = .ok (.getfield 7, 3) := by decide +kernel
theorem dX12_makeVariable_33 : decode cX12_makeVariable 33 = .ok (.bipush 61, 2) := by decide +kernel
theorem dX12_makeVariable_35 : decode cX12_makeVariable 35 = .ok (.iload_n 1, 1) := by decide +kernel
theorem dX12_makeVariable_36 : decode cX12_makeVariable 36 = .ok (.iadd, 1) := by decide +kernel
theorem dX12_makeVariable_37 : decode cX12_makeVariable 37 = .ok (.bipush 100, 2) := by decide +kernel
theorem dX12_makeVariable_39 : decode cX12_makeVariable 39 = .ok (.iastore, 1) := by decide +kernel
theorem dX12_makeVariable_40 : decode cX12_makeVariable 40 = .ok (.aload_n 0, 1) := by decide +kernel
theorem dX12_makeVariable_41 : decode cX12_makeVariable 41 = .ok (.getfield 7, 3) := by decide +kernel
theorem dX12_makeVariable_44 : decode cX12_makeVariable 44 = .ok (.iconst 0, 1) := by decide +kernel
theorem dX12_makeVariable_45 : decode cX12_makeVariable 45 = .ok (.dup2, 1) := by decide +kernel
theorem dX12_makeVariable_46 : decode cX12_makeVariable 46 = .ok (.iaload, 1) := by decide +kernel
theorem dX12_makeVariable_47 : decode cX12_makeVariable 47 = .ok (.iconst 1, 1) := by decide +kernel
theorem dX12_makeVariable_48 : decode cX12_makeVariable 48 = .ok (.iadd, 1) := by decide +kernel
theorem dX12_makeVariable_49 : decode cX12_makeVariable 49 = .ok (.iastore, 1) := by decide +kernel
theorem dX12_makeVariable_50 : decode cX12_makeVariable 50 = .ok (.iload_n 1, 1) := by decide +kernel
theorem dX12_makeVariable_51 : decode cX12_makeVariable 51 = .ok (.ireturn, 1) := by decide +kernel
theorem dX12_variable_0 : decode cX12_variable 0 = .ok (.aload_n 0, 1) := by decide +kernel
theorem dX12_variable_1 : decode cX12_variable 1 = .ok (.iconst 0, 1) := by decide +kernel
theorem dX12_variable_2 : decode cX12_variable 2 = .ok (.putfield 118, 3) := by decide +kernel
theorem dX12_variable_5 : decode cX12_variable 5 = .ok (.aload_n 0, 1) := by decide +kernel
theorem dX12_variable_6 : decode cX12_variable 6 = .ok (.getfield 7, 3) := by decide +kernel
theorem dX12_variable_9 : decode cX12_variable 9 = .ok (.iconst 0, 1) := by decide +kernel
theorem dX12_variable_10 : decode cX12_variable 10 = .ok (.iaload, 1) := by decide +kernel
theorem dX12_variable_11 : decode cX12_variable 11 = .ok (.bipush 60, 2) := by decide +kernel
theorem dX12_variable_13 : decode cX12_variable 13 = .ok (.if_icmp .eq 15, 3) := by decide +kernel
theorem dX12_variable_16 : decode cX12_variable 16 = .ok (.aload_n 0, 1) := by decide +kernel
theorem dX12_variable_17 : decode cX12_variable 17 = .ok (.getfield 7, 3) := by decide +kernel
theorem dX12_variable_20 : decode cX12_variable 20 = .ok (.sipush 7040, 3) := by decide +kernel
theorem dX12_variable_23 : decode cX12_variable 23 = .ok (.iaload, 1) := by decide +kernel
theorem dX12_variable_24 : decode cX12_variable 24 = .ok (.iconst 1, 1) := by decide +kernel
theorem dX12_variable_25 : decode cX12_variable 25 = .ok (.if_icmp .ne 9, 3) := by decide +kernel
theorem dX12_variable_28 : decode cX12_variable 28 = .ok (.aload_n 0, 1) := by decide +kernel
theorem dX12_variable_29 : decode cX12_variable 29 = .ok (.iconst 1, 1) := by decide +kernel
theorem dX12_variable_30 : decode cX12_variable 30 = .ok (.invokevirtual 137, 3) := by decide +kernel
theorem dX12_variable_33 : decode cX12_variable 33 = .ok (.ireturn, 1) := by decide +kernel
theorem dX12_variable_34 : decode cX12_variable 34 = .ok (.aload_n 0, 1) := by decide +kernel
theorem dX12_variable_35 : decode cX12_variable 35 = .ok (.invokevirtual 141, 3) := by decide +kernel
theorem dX12_variable_38 : decode cX12_variable 38 = .ok (.ireturn, 1) := by decide +kernel
theorem dX12_valueOf_0 : decode cX12_valueOf 0 = .ok (.iload_n 1, 1) := by decide +kernel
theorem dX12_valueOf_1 : decode cX12_valueOf 1 = .ok (.sipush 400, 3) := by decide +kernel
theorem dX12_valueOf_4 : decode cX12_valueOf 4 = .ok (.if_icmp .lt 26, 3) := by decide +kernel
theorem dX12_valueOf_7 : decode cX12_valueOf 7 = .ok (.aload_n 0, 1) := by decide +kernel
theorem dX12_valueOf_8 : decode cX12_valueOf 8 = .ok (.getfield 7, 3) := by decide +kernel
theorem dX12_valueOf_11 : decode cX12_valueOf 11 = .ok (.bipush 61, 2) := by decide +kernel
theorem dX12_valueOf_13 : decode cX12_valueOf 13 = .ok (.aload_n 0, 1) := by decide +kernel
theorem dX12_valueOf_14 : decode cX12_valueOf 14 = .ok (.getfield 7, 3) := by decide +kernel
theorem dX12_valueOf_17 : decode cX12_valueOf 17 = .ok (.iconst 1, 1) := by decide +kernel
theorem dX12_valueOf_18 : decode cX12_valueOf 18 = .ok (.iload_n 1, 1) := by decide +kernel
theorem dX12_valueOf_19 : decode cX12_valueOf 19 = .ok (.iadd, 1) := by decide +kernel
theorem dX12_valueOf_20 : decode cX12_valueOf 20 = .ok (.sipush 400, 3) := by decide +kernel
theorem dX12_valueOf_23 : decode cX12_valueOf 23 = .ok (.isub, 1) := by decide +kernel
theorem dX12_valueOf_24 : decode cX12_valueOf 24 = .ok (.iaload, 1) := by decide +kernel
theorem dX12_valueOf_25 : decode cX12_valueOf 25 = .ok (.iadd, 1) := by decide +kernel
theorem dX12_valueOf_26 : decode cX12_valueOf 26 = .ok (.iaload, 1) := by decide +kernel
theorem dX12_valueOf_27 : decode cX12_valueOf 27 = .ok (.goto 4, 3) := by decide +kernel
theorem dX12_valueOf_30 : decode cX12_valueOf 30 = .ok (.iload_n 1, 1) := by decide +kernel
theorem dX12_valueOf_31 : decode cX12_valueOf 31 = .ok (.ireturn, 1) := by decide +kernel
theorem dX12_areEqual_0 : decode cX12_areEqual 0 = .ok (.aload_n 0, 1) := by decide +kernel
theorem dX12_areEqual_1 : decode cX12_areEqual 1 = .ok (.iload_n 1, 1) := by decide +kernel
theorem dX12_areEqual_2 : decode cX12_areEqual 2 = .ok (.invokevirtual 145, 3) := by decide +kernel
theorem dX12_areEqual_5 : decode cX12_areEqual 5 = .ok (.istore_n 3, 1) := by decide +kernel
theorem dX12_areEqual_6 : decode cX12_areEqual 6 = .ok (.iload_n 3, 1) := by decide +kernel
theorem dX12_areEqual_7 : decode cX12_areEqual 7 = .ok (.bipush 100, 2) := by decide +kernel
theorem dX12_areEqual_9 : decode cX12_areEqual 9 = .ok (.if_icmp .eq 18, 3) := by decide +kernel
theorem dX12_areEqual_12 : decode cX12_areEqual 12 = .ok (.iload_n 3, 1) := by decide +kernel
theorem dX12_areEqual_13 : decode cX12_areEqual 13 = .ok (.aload_n 0, 1) := by decide +kernel
theorem dX12_areEqual_14 : decode cX12_areEqual 14 = .ok (.iload_n 2, 1) := by decide +kernel
theorem dX12_areEqual_15 : decode cX12_areEqual 15 = .ok (.invokevirtual 145, 3) := by decide +kernel
theorem dX12_areEqual_18 : decode cX12_areEqual 18 = .ok (.if_icmp .ne 7, 3) := by decide +kernel
theorem dX12_areEqual_21 : decode cX12_areEqual 21 = .ok (.iconst 1, 1) := by decide +kernel
theorem dX12_areEqual_22 : decode cX12_areEqual 22 = .ok (.goto 4, 3) := by decide +kernel
theorem dX12_areEqual_25 : decode cX12_areEqual 25 = .ok (.iconst 0, 1) := by decide +kernel
theorem dX12_areEqual_26 : decode cX12_areEqual 26 = .ok (.ireturn, 1) := by decide +kernel
theorem dX12_areEqual_27 : decode cX12_areEqual 27 = .ok (.iload_n 2, 1) := by decide +kernel
theorem dX12_areEqual_28 : decode cX12_areEqual 28 = .ok (.sipush 400, 3) := by decide +kernel
theorem dX12_areEqual_31 : decode cX12_areEqual 31 = .ok (.if_icmp .lt 34, 3) := by decide +kernel
theorem dX12_areEqual_34 : decode cX12_areEqual 34 = .ok (.aload_n 0, 1) := by decide +kernel
theorem dX12_areEqual_35 : decode cX12_areEqual 35 = .ok (.getfield 7, 3) := by decide +kernel
theorem dX12_areEqual_38 : decode cX12_areEqual 38 = .ok (.iconst 1, 1) := by decide +kernel
theorem dX12_areEqual_39 : decode cX12_areEqual 39 = .ok (.iload_n 1, 1) := by decide +kernel
theorem dX12_areEqual_40 : decode cX12_areEqual 40 = .ok (.iadd, 1) := by decide +kernel
theorem dX12_areEqual_41 : decode cX12_areEqual 41 = .ok (.sipush 400, 3) := by decide +kernel
theorem dX12_areEqual_44 : decode cX12_areEqual 44 = .ok (.isub, 1) := by decide +kernel
theorem dX12_areEqual_45 : decode cX12_areEqual 45 = .ok (.iaload, 1) := by decide +kernel
theorem dX12_areEqual_46 : decode cX12_areEqual 46 = .ok (.aload_n 0, 1) := by decide +kernel
theorem dX12_areEqual_47 : decode cX12_areEqual 47 = .ok (.getfield 7, 3) := by decide +kernel
theorem dX12_areEqual_50 : decode cX12_areEqual 50 = .ok (.iconst 1, 1) := by decide +kernel
theorem dX12_areEqual_51 : decode cX12_areEqual 51 = .ok (.iload_n 2, 1) := by decide +kernel
theorem dX12_areEqual_52 : decode cX12_areEqual 52 = .ok (.iadd, 1) := by decide +kernel
theorem dX12_areEqual_53 : decode cX12_areEqual 53 = .ok (.sipush 400, 3) := by decide +kernel
theorem dX12_areEqual_56 : decode cX12_areEqual 56 = .ok (.isub, 1) := by decide +kernel
theorem dX12_areEqual_57 : decode cX12_areEqual 57 = .ok (.iaload, 1) := by decide +kernel
theorem dX12_areEqual_58 : decode cX12_areEqual 58 = .ok (.if_icmp .ne 7, 3) := by decide +kernel
theorem dX12_areEqual_61 : decode cX12_areEqual 61 = .ok (.iconst 1, 1) := by decide +kernel
theorem dX12_areEqual_62 : decode cX12_areEqual 62 = .ok (.goto 4, 3) := by decide +kernel
theorem dX12_areEqual_65 : decode cX12_areEqual 65 = .ok (.iconst 0, 1) := by decide +kernel
theorem dX12_areEqual_66 : decode cX12_areEqual 66 = .ok (.ireturn, 1) := by decide +kernel
theorem dX12_tokenOf_0 : decode cX12_tokenOf 0 = .ok (.iconst 0, 1) := by decide +kernel
theorem dX12_tokenOf_1 : decode cX12_tokenOf 1 = .ok (.istore 4, 2) := by decide +kernel
theorem dX12_tokenOf_3 : decode cX12_tokenOf 3 = .ok (.iload 4, 2) := by decide +kernel
theorem dX12_tokenOf_5 : decode cX12_tokenOf 5 = .ok (.aload_n 0, 1) := by decide +kernel
theorem dX12_tokenOf_6 : decode cX12_tokenOf 6 = .ok (.getfield 7, 3) := by decide +kernel
theorem dX12_tokenOf_9 : decode cX12_tokenOf 9 = .ok (.bipush 121, 2) := by decide +kernel
theorem dX12_tokenOf_11 : decode cX12_tokenOf 11 = .ok (.iaload, 1) := by decide +kernel
theorem dX12_tokenOf_12 : decode cX12_tokenOf 12 = .ok (.if_icmp .ge 79, 3) := by decide +kernel
theorem dX12_tokenOf_15 : decode cX12_tokenOf 15 = .ok (.aload_n 0, 1) := by decide +kernel
theorem dX12_tokenOf_16 : decode cX12_tokenOf 16 = .ok (.getfield 7, 3) := by decide +kernel
theorem dX12_tokenOf_19 : decode cX12_tokenOf 19 = .ok (.sipush 422, 3) := by decide +kernel
theorem dX12_tokenOf_22 : decode cX12_tokenOf 22 = .ok (.iload 4, 2) := by decide +kernel
theorem dX12_tokenOf_24 : decode cX12_tokenOf 24 = .ok (.iadd, 1) := by decide +kernel
theorem dX12_tokenOf_25 : decode cX12_tokenOf 25 = .ok (.iaload, 1) := by decide +kernel
theorem dX12_tokenOf_26 : decode cX12_tokenOf 26 = .ok (.iconst 1, 1) := by decide +kernel
theorem dX12_tokenOf_27 : decode cX12_tokenOf 27 = .ok (.if_icmp .ne 58, 3) := by decide +kernel
theorem dX12_tokenOf_30 : decode cX12_tokenOf 30 = .ok (.aload_n 0, 1) := by decide +kernel
theorem dX12_tokenOf_31 : decode cX12_tokenOf 31 = .ok (.getfield 7, 3) := by decide +kernel
theorem dX12_tokenOf_34 : decode cX12_tokenOf 34 = .ok (.bipush 122, 2) := by decide +kernel
theorem dX12_tokenOf_36 : decode cX12_tokenOf 36 = .ok (.iload 4, 2) := by decide +kernel
theorem dX12_tokenOf_38 : decode cX12_tokenOf 38 = .ok (.iadd, 1) := by decide +kernel
theorem dX12_tokenOf_39 : decode cX12_tokenOf 39 = .ok (.iaload, 1) := by decide +kernel
theorem dX12_tokenOf_40 : decode cX12_tokenOf 40 = .ok (.iload_n 1, 1) := by decide +kernel
theorem dX12_tokenOf_41 : decode cX12_tokenOf 41 = .ok (.if_icmp .ne 44, 3) := by decide +kernel
theorem dX12_tokenOf_44 : decode cX12_tokenOf 44 = .ok (.aload_n 0, 1) := by decide +kernel
theorem dX12_tokenOf_45 : decode cX12_tokenOf 45 = .ok (.aload_n 0, 1) := by decide +kernel
theorem dX12_tokenOf_46 : decode cX12_tokenOf 46 = .ok (.getfield 7, 3) := by decide +kernel
theorem dX12_tokenOf_49 : decode cX12_tokenOf 49 = .ok (.sipush 222, 3) := by decide +kernel
theorem dX12_tokenOf_52 : decode cX12_tokenOf 52 = .ok (.iload 4, 2) := by decide +kernel
theorem dX12_tokenOf_54 : decode cX12_tokenOf 54 = .ok (.iadd, 1) := by decide +kernel
theorem dX12_tokenOf_55 : decode cX12_tokenOf 55 = .ok (.iaload, 1) := by decide +kernel
theorem dX12_tokenOf_56 : decode cX12_tokenOf 56 = .ok (.iload_n 2, 1) := by decide +kernel
theorem dX12_tokenOf_57 : decode cX12_tokenOf 57 = .ok (.invokevirtual 148, 3) := by decide +kernel
theorem dX12_tokenOf_60 : decode cX12_tokenOf 60 = .ok (.ifCond .eq 25, 3) := by decide +kernel
theorem dX12_tokenOf_63 : decode cX12_tokenOf 63 = .ok (.aload_n 0, 1) := by decide +kernel
theorem dX12_tokenOf_64 : decode cX12_tokenOf 64 = .ok (.aload_n 0, 1) := by decide +kernel
theorem dX12_tokenOf_65 : decode cX12_tokenOf 65 = .ok (.getfield 7, 3) := by decide +kernel
theorem dX12_tokenOf_68 : decode cX12_tokenOf 68 = .ok (.sipush 322, 3) := by decide +kernel
theorem dX12_tokenOf_71 : decode cX12_tokenOf 71 = .ok (.iload 4, 2) := by decide +kernel
theorem dX12_tokenOf_73 : decode cX12_tokenOf 73 = .ok (.iadd, 1) := by decide +kernel
theorem dX12_tokenOf_74 : decode cX12_tokenOf 74 = .ok (.iaload, 1) := by decide +kernel
theorem dX12_tokenOf_75 : decode cX12_tokenOf 75 = .ok (.iload_n 3, 1) := by decide +kernel
theorem dX12_tokenOf_76 : decode cX12_tokenOf 76 = .ok (.invokevirtual 148, 3) := by decide +kernel
theorem dX12_tokenOf_79 : decode cX12_tokenOf 79 = .ok (.ifCond .eq 6, 3) := by decide +kernel
theorem dX12_tokenOf_82 : decode cX12_tokenOf 82 = .ok (.iload 4, 2) := by decide +kernel
theorem dX12_tokenOf_84 : decode cX12_tokenOf 84 = .ok (.ireturn, 1) := by decide +kernel
theorem dX12_tokenOf_85 : decode cX12_tokenOf 85 = .ok (.iinc 4 1, 3) := by decide +kernel
theorem dX12_tokenOf_88 : decode cX12_tokenOf 88 = .ok (.goto (-85), 3) := by decide +kernel
theorem dX12_tokenOf_91 : decode cX12_tokenOf 91 = .ok (.iconst (-1), 1) := by decide +kernel
theorem dX12_tokenOf_92 : decode cX12_tokenOf 92 = .ok (.ireturn, 1) := by decide +kernel
theorem dX12_entails_0 : decode cX12_entails 0 = .ok (.iload_n 1, 1) := by decide +kernel
theorem dX12_entails_1 : decode cX12_entails 1 = .ok (.bipush 10, 2) := by decide +kernel
theorem dX12_entails_3 : decode cX12_entails 3 = .ok (.if_icmp .lt 23, 3) := by decide +kernel
theorem dX12_entails_6 : decode cX12_entails 6 = .ok (.aload_n 0, 1) := by decide +kernel
theorem dX12_entails_7 : decode cX12_entails 7 = .ok (.iload_n 1, 1) := by decide +kernel
theorem dX12_entails_8 : decode cX12_entails 8 = .ok (.bipush 10, 2) := by decide +kernel
theorem dX12_entails_10 : decode cX12_entails 10 = .ok (.isub, 1) := by decide +kernel
theorem dX12_entails_11 : decode cX12_entails 11 = .ok (.iload_n 2, 1) := by decide +kernel
theorem dX12_entails_12 : decode cX12_entails 12 = .ok (.iload_n 3, 1) := by decide +kernel
theorem dX12_entails_13 : decode cX12_entails 13 = .ok (.invokevirtual 152, 3) := by decide +kernel
theorem dX12_entails_16 : decode cX12_entails 16 = .ok (.iconst (-1), 1) := by decide +kernel
theorem dX12_entails_17 : decode cX12_entails 17 = .ok (.if_icmp .eq 7, 3) := by decide +kernel
theorem dX12_entails_20 : decode cX12_entails 20 = .ok (.iconst 1, 1) := by decide +kernel
theorem dX12_entails_21 : decode cX12_entails 21 = .ok (.goto 4, 3) := by decide +kernel
theorem dX12_entails_24 : decode cX12_entails 24 = .ok (.iconst 0, 1) := by decide +kernel
theorem dX12_entails_25 : decode cX12_entails 25 = .ok (.ireturn, 1) := by decide +kernel
theorem dX12_entails_26 : decode cX12_entails 26 = .ok (.aload_n 0, 1) := by decide +kernel
theorem dX12_entails_27 : decode cX12_entails 27 = .ok (.iload_n 2, 1) := by decide +kernel
theorem dX12_entails_28 : decode cX12_entails 28 = .ok (.invokevirtual 145, 3) := by decide +kernel
theorem dX12_entails_31 : decode cX12_entails 31 = .ok (.istore 4, 2) := by decide +kernel
theorem dX12_entails_33 : decode cX12_entails 33 = .ok (.aload_n 0, 1) := by decide +kernel
theorem dX12_entails_34 : decode cX12_entails 34 = .ok (.iload_n 3, 1) := by decide +kernel
theorem dX12_entails_35 : decode cX12_entails 35 = .ok (.invokevirtual 145, 3) := by decide +kernel
theorem dX12_entails_38 : decode cX12_entails 38 = .ok (.istore 5, 2) := by decide +kernel
theorem dX12_entails_40 : decode cX12_entails 40 = .ok (.iload_n 1, 1) := by decide +kernel
theorem dX12_entails_41 : decode cX12_entails 41 = .ok (.ifCond .ne 10, 3) := by decide +kernel
theorem dX12_entails_44 : decode cX12_entails 44 = .ok (.aload_n 0, 1) := by decide +kernel
theorem dX12_entails_45 : decode cX12_entails 45 = .ok (.iload_n 2, 1) := by decide +kernel
theorem dX12_entails_46 : decode cX12_entails 46 = .ok (.iload_n 3, 1) := by decide +kernel
theorem dX12_entails_47 : decode cX12_entails 47 = .ok (.invokevirtual 148, 3) := by decide +kernel
theorem dX12_entails_50 : decode cX12_entails 50 = .ok (.ireturn, 1) := by decide +kernel
theorem dX12_entails_51 : decode cX12_entails 51 = .ok (.iload_n 1, 1) := by decide +kernel
theorem dX12_entails_52 : decode cX12_entails 52 = .ok (.iconst 3, 1) := by decide +kernel
theorem dX12_entails_53 : decode cX12_entails 53 = .ok (.if_icmp .ne 16, 3) := by decide +kernel
theorem dX12_entails_56 : decode cX12_entails 56 = .ok (.iload 4, 2) := by decide +kernel
theorem dX12_entails_58 : decode cX12_entails 58 = .ok (.bipush 100, 2) := by decide +kernel
theorem dX12_entails_60 : decode cX12_entails 60 = .ok (.if_icmp .eq 7, 3) := by decide +kernel
theorem dX12_entails_63 : decode cX12_entails 63 = .ok (.iconst 1, 1) := by decide +kernel
theorem dX12_entails_64 : decode cX12_entails 64 = .ok (.goto 4, 3) := by decide +kernel
theorem dX12_entails_67 : decode cX12_entails 67 = .ok (.iconst 0, 1) := by decide +kernel
theorem dX12_entails_68 : decode cX12_entails 68 = .ok (.ireturn, 1) := by decide +kernel
theorem dX12_entails_69 : decode cX12_entails 69 = .ok (.iload 4, 2) := by decide +kernel
theorem dX12_entails_71 : decode cX12_entails 71 = .ok (.bipush 100, 2) := by decide +kernel
theorem dX12_entails_73 : decode cX12_entails 73 = .ok (.if_icmp .eq 14, 3) := by decide +kernel
theorem dX12_entails_76 : decode cX12_entails 76 = .ok (.iload 5, 2) := by decide +kernel
theorem dX12_entails_78 : decode cX12_entails 78 = .ok (.bipush 100, 2) := by decide +kernel
theorem dX12_entails_80 : decode cX12_entails 80 = .ok (.if_icmp .eq 7, 3) := by decide +kernel
theorem dX12_entails_83 : decode cX12_entails 83 = .ok (.iconst 1, 1) := by decide +kernel
theorem dX12_entails_84 : decode cX12_entails 84 = .ok (.goto 4, 3) := by decide +kernel
theorem dX12_entails_87 : decode cX12_entails 87 = .ok (.iconst 0, 1) := by decide +kernel
theorem dX12_entails_88 : decode cX12_entails 88 = .ok (.istore 6, 2) := by decide +kernel
theorem dX12_entails_90 : decode cX12_entails 90 = .ok (.iload 6, 2) := by decide +kernel
theorem dX12_entails_92 : decode cX12_entails 92 = .ok (.ifCond .eq 29, 3) := by decide +kernel
theorem dX12_entails_95 : decode cX12_entails 95 = .ok (.iload_n 1, 1) := by decide +kernel
theorem dX12_entails_96 : decode cX12_entails 96 = .ok (.iconst 1, 1) := by decide +kernel
theorem dX12_entails_97 : decode cX12_entails 97 = .ok (.if_icmp .ne 13, 3) := by decide +kernel
theorem dX12_entails_100 : decode cX12_entails 100 = .ok (.iload 4, 2) := by decide +kernel
theorem dX12_entails_102 : decode cX12_entails 102 = .ok (.iload 5, 2) := by decide +kernel
theorem dX12_entails_104 : decode cX12_entails 104 = .ok (.if_icmp .eq 17, 3) := by decide +kernel
theorem dX12_entails_107 : decode cX12_entails 107 = .ok (.goto 10, 3) := by decide +kernel
theorem dX12_entails_110 : decode cX12_entails 110 = .ok (.iload 4, 2) := by decide +kernel
theorem dX12_entails_112 : decode cX12_entails 112 = .ok (.iload 5, 2) := by decide +kernel
theorem dX12_entails_114 : decode cX12_entails 114 = .ok (.if_icmp .ge 7, 3) := by decide +kernel
theorem dX12_entails_117 : decode cX12_entails 117 = .ok (.iconst 1, 1) := by decide +kernel
theorem dX12_entails_118 : decode cX12_entails 118 = .ok (.goto 4, 3) := by decide +kernel
theorem dX12_entails_121 : decode cX12_entails 121 = .ok (.iconst 0, 1) := by decide +kernel
theorem dX12_entails_122 : decode cX12_entails 122 = .ok (.ireturn, 1) := by decide +kernel
theorem dX12_pushFrame_0 : decode cX12_pushFrame 0 = .ok (.iconst 0, 1) := by decide +kernel
theorem dX12_pushFrame_1 : decode cX12_pushFrame 1 = .ok (.istore_n 2, 1) := by decide +kernel
theorem dX12_pushFrame_2 : decode cX12_pushFrame 2 = .ok (.iload_n 2, 1) := by decide +kernel
theorem dX12_pushFrame_3 : decode cX12_pushFrame 3 = .ok (.bipush 12, 2) := by decide +kernel
theorem dX12_pushFrame_5 : decode cX12_pushFrame 5 = .ok (.if_icmp .ge 24, 3) := by decide +kernel
theorem dX12_pushFrame_8 : decode cX12_pushFrame 8 = .ok (.aload_n 0, 1) := by decide +kernel
theorem dX12_pushFrame_9 : decode cX12_pushFrame 9 = .ok (.getfield 91, 3) := by decide +kernel
theorem dX12_pushFrame_12 : decode cX12_pushFrame 12 = .ok (.bipush 12, 2) := by decide +kernel
theorem dX12_pushFrame_14 : decode cX12_pushFrame 14 = .ok (.aload_n 0, 1) := by decide +kernel
theorem dX12_pushFrame_15 : decode cX12_pushFrame 15 = .ok (.getfield 156, 3) := by decide +kernel
theorem dX12_pushFrame_18 : decode cX12_pushFrame 18 = .ok (.imul, 1) := by decide +kernel
theorem dX12_pushFrame_19 : decode cX12_pushFrame 19 = .ok (.iload_n 2, 1) := by decide +kernel
theorem dX12_pushFrame_20 : decode cX12_pushFrame 20 = .ok (.iadd, 1) := by decide +kernel
theorem dX12_pushFrame_21 : decode cX12_pushFrame 21 = .ok (.iconst 0, 1) := by decide +kernel
theorem dX12_pushFrame_22 : decode cX12_pushFrame 22 = .ok (.iastore, 1) := by decide +kernel
theorem dX12_pushFrame_23 : decode cX12_pushFrame 23 = .ok (.iinc 2 1, 3) := by decide +kernel
theorem dX12_pushFrame_26 : decode cX12_pushFrame 26 = .ok (.goto (-24), 3) := by decide +kernel
theorem dX12_pushFrame_29 : decode cX12_pushFrame 29 = .ok (.aload_n 0, 1) := by decide +kernel
theorem dX12_pushFrame_30 : decode cX12_pushFrame 30 = .ok (.getfield 91, 3) := by decide +kernel
theorem dX12_pushFrame_33 : decode cX12_pushFrame 33 = .ok (.bipush 12, 2) := by decide +kernel
theorem dX12_pushFrame_35 : decode cX12_pushFrame 35 = .ok (.aload_n 0, 1) := by decide +kernel
theorem dX12_pushFrame_36 : decode cX12_pushFrame 36 = .ok (.getfield 156, 3) := by decide +kernel
theorem dX12_pushFrame_39 : decode cX12_pushFrame 39 = .ok (.imul, 1) := by decide +kernel
theorem dX12_pushFrame_40 : decode cX12_pushFrame 40 = .ok (.iload_n 1, 1) := by decide +kernel
theorem dX12_pushFrame_41 : decode cX12_pushFrame 41 = .ok (.iastore, 1) := by decide +kernel
theorem dX12_pushFrame_42 : decode cX12_pushFrame 42 = .ok (.aload_n 0, 1) := by decide +kernel
theorem dX12_pushFrame_43 : decode cX12_pushFrame 43 = .ok (.dup, 1) := by decide +kernel
theorem dX12_pushFrame_44 : decode cX12_pushFrame 44 = .ok (.getfield 156, 3) := by decide +kernel
theorem dX12_pushFrame_47 : decode cX12_pushFrame 47 = .ok (.iconst 1, 1) := by decide +kernel
theorem dX12_pushFrame_48 : decode cX12_pushFrame 48 = .ok (.iadd, 1) := by decide +kernel
theorem dX12_pushFrame_49 : decode cX12_pushFrame 49 = .ok (.putfield 156, 3) := by decide +kernel
theorem dX12_pushFrame_52 : decode cX12_pushFrame 52 = .ok (.return_, 1) := by decide +kernel
theorem dX12_pushActive_0 : decode cX12_pushActive 0 = .ok (.aload_n 0, 1) := by decide +kernel
theorem dX12_pushActive_1 : decode cX12_pushActive 1 = .ok (.iconst 0, 1) := by decide +kernel
theorem dX12_pushActive_2 : decode cX12_pushActive 2 = .ok (.invokevirtual 159, 3) := by decide +kernel
theorem dX12_pushActive_5 : decode cX12_pushActive 5 = .ok (.aload_n 0, 1) := by decide +kernel
theorem dX12_pushActive_6 : decode cX12_pushActive 6 = .ok (.getfield 91, 3) := by decide +kernel
theorem dX12_pushActive_9 : decode cX12_pushActive 9 = .ok (.bipush 12, 2) := by decide +kernel
theorem dX12_pushActive_11 : decode cX12_pushActive 11 = .ok (.aload_n 0, 1) := by decide +kernel
theorem dX12_pushActive_12 : decode cX12_pushActive 12 = .ok (.getfield 156, 3) := by decide +kernel
theorem dX12_pushActive_15 : decode cX12_pushActive 15 = .ok (.imul, 1) := by decide +kernel
theorem dX12_pushActive_16 : decode cX12_pushActive 16 = .ok (.bipush 11, 2) := by decide +kernel
theorem dX12_pushActive_18 : decode cX12_pushActive 18 = .ok (.isub, 1) := by decide +kernel
theorem dX12_pushActive_19 : decode cX12_pushActive 19 = .ok (.iload_n 1, 1) := by decide +kernel
theorem dX12_pushActive_20 : decode cX12_pushActive 20 = .ok (.iastore, 1) := by decide +kernel
theorem dX12_pushActive_21 : decode cX12_pushActive 21 = .ok (.return_, 1) := by decide +kernel
theorem dX12_tellToken_0 : decode cX12_tellToken 0 = .ok (.aload_n 0, 1) := by decide +kernel
theorem dX12_tellToken_1 : decode cX12_tellToken 1 = .ok (.getfield 7, 3) := by decide +kernel
theorem dX12_tellToken_4 : decode cX12_tellToken 4 = .ok (.bipush 121, 2) := by decide +kernel
theorem dX12_tellToken_6 : decode cX12_tellToken 6 = .ok (.iaload, 1) := by decide +kernel
theorem dX12_tellToken_7 : decode cX12_tellToken 7 = .ok (.istore 5, 2) := by decide +kernel
theorem dX12_tellToken_9 : decode cX12_tellToken 9 = .ok (.iload 5, 2) := by decide +kernel
theorem dX12_tellToken_11 : decode cX12_tellToken 11 = .ok (.bipush 100, 2) := by decide +kernel
theorem dX12_tellToken_13 : decode cX12_tellToken 13 = .ok (.if_icmp .ne 9, 3) := by decide +kernel
theorem dX12_tellToken_16 : decode cX12_tellToken 16 = .ok (.aload_n 0, 1) := by decide +kernel
theorem dX12_tellToken_17 : decode cX12_tellToken 17 = .ok (.iconst 1, 1) := by decide +kernel
theorem dX12_tellToken_18 : decode cX12_tellToken 18 = .ok (.putfield 133, 3) := by decide +kernel
theorem dX12_tellToken_21 : decode cX12_tellToken 21 = .ok (.return_, 1) := by decide +kernel
theorem dX12_tellToken_22 : decode cX12_tellToken 22 = .ok (.aload_n 0, 1) := by decide +kernel
theorem dX12_tellToken_23 : decode cX12_tellToken 23 = .ok (.getfield 7, 3) := by decide +kernel
theorem dX12_tellToken_26 : decode cX12_tellToken 26 = .ok (.bipush 122, 2) := by decide +kernel
theorem dX12_tellToken_28 : decode cX12_tellToken 28 = .ok (.iload 5, 2) := by decide +kernel
theorem dX12_tellToken_30 : decode cX12_tellToken 30 = .ok (.iadd, 1) := by decide +kernel
theorem dX12_tellToken_31 : decode cX12_tellToken 31 = .ok (.iload_n 1, 1) := by decide +kernel
theorem dX12_tellToken_32 : decode cX12_tellToken 32 = .ok (.iastore, 1) := by decide +kernel
theorem dX12_tellToken_33 : decode cX12_tellToken 33 = .ok (.aload_n 0, 1) := by decide +kernel
theorem dX12_tellToken_34 : decode cX12_tellToken 34 = .ok (.getfield 7, 3) := by decide +kernel
theorem dX12_tellToken_37 : decode cX12_tellToken 37 = .ok (.sipush 222, 3) := by decide +kernel
theorem dX12_tellToken_40 : decode cX12_tellToken 40 = .ok (.iload 5, 2) := by decide +kernel
theorem dX12_tellToken_42 : decode cX12_tellToken 42 = .ok (.iadd, 1) := by decide +kernel
theorem dX12_tellToken_43 : decode cX12_tellToken 43 = .ok (.iload_n 2, 1) := by decide +kernel
theorem dX12_tellToken_44 : decode cX12_tellToken 44 = .ok (.iastore, 1) := by decide +kernel
theorem dX12_tellToken_45 : decode cX12_tellToken 45 = .ok (.aload_n 0, 1) := by decide +kernel
theorem dX12_tellToken_46 : decode cX12_tellToken 46 = .ok (.getfield 7, 3) := by decide +kernel
theorem dX12_tellToken_49 : decode cX12_tellToken 49 = .ok (.sipush 322, 3) := by decide +kernel
theorem dX12_tellToken_52 : decode cX12_tellToken 52 = .ok (.iload 5, 2) := by decide +kernel
theorem dX12_tellToken_54 : decode cX12_tellToken 54 = .ok (.iadd, 1) := by decide +kernel
theorem dX12_tellToken_55 : decode cX12_tellToken 55 = .ok (.iload_n 3, 1) := by decide +kernel
theorem dX12_tellToken_56 : decode cX12_tellToken 56 = .ok (.iastore, 1) := by decide +kernel
theorem dX12_tellToken_57 : decode cX12_tellToken 57 = .ok (.aload_n 0, 1) := by decide +kernel
theorem dX12_tellToken_58 : decode cX12_tellToken 58 = .ok (.getfield 7, 3) := by decide +kernel
theorem dX12_tellToken_61 : decode cX12_tellToken 61 = .ok (.sipush 422, 3) := by decide +kernel
theorem dX12_tellToken_64 : decode cX12_tellToken 64 = .ok (.iload 5, 2) := by decide +kernel
theorem dX12_tellToken_66 : decode cX12_tellToken 66 = .ok (.iadd, 1) := by decide +kernel
theorem dX12_tellToken_67 : decode cX12_tellToken 67 = .ok (.iconst 1, 1) := by decide +kernel
theorem dX12_tellToken_68 : decode cX12_tellToken 68 = .ok (.iastore, 1) := by decide +kernel
theorem dX12_tellToken_69 : decode cX12_tellToken 69 = .ok (.aload_n 0, 1) := by decide +kernel
theorem dX12_tellToken_70 : decode cX12_tellToken 70 = .ok (.getfield 7, 3) := by decide +kernel
theorem dX12_tellToken_73 : decode cX12_tellToken 73 = .ok (.sipush 522, 3) := by decide +kernel
theorem dX12_tellToken_76 : decode cX12_tellToken 76 = .ok (.iload 5, 2) := by decide +kernel
theorem dX12_tellToken_78 : decode cX12_tellToken 78 = .ok (.iadd, 1) := by decide +kernel
theorem dX12_tellToken_79 : decode cX12_tellToken 79 = .ok (.iload 4, 2) := by decide +kernel
theorem dX12_tellToken_81 : decode cX12_tellToken 81 = .ok (.ifCond .eq 7, 3) := by decide +kernel
theorem dX12_tellToken_84 : decode cX12_tellToken 84 = .ok (.iconst 1, 1) := by decide +kernel
theorem dX12_tellToken_85 : decode cX12_tellToken 85 = .ok (.goto 4, 3) := by decide +kernel
theorem dX12_tellToken_88 : decode cX12_tellToken 88 = .ok (.iconst 0, 1) := by decide +kernel
theorem dX12_tellToken_89 : decode cX12_tellToken 89 = .ok (.iastore, 1) := by decide +kernel
theorem dX12_tellToken_90 : decode cX12_tellToken 90 = .ok (.iconst 0, 1) := by decide +kernel
theorem dX12_tellToken_91 : decode cX12_tellToken 91 = .ok (.istore 6, 2) := by decide +kernel
theorem dX12_tellToken_93 : decode cX12_tellToken 93 = .ok (.iload 6, 2) := by decide +kernel
theorem dX12_tellToken_95 : decode cX12_tellToken 95 = .ok (.iconst 4, 1) := by decide +kernel
theorem dX12_tellToken_96 : decode cX12_tellToken 96 = .ok (.if_icmp .ge 32, 3) := by decide +kernel
theorem dX12_tellToken_99 : decode cX12_tellToken 99 = .ok (.aload_n 0, 1) := by decide +kernel
theorem dX12_tellToken_100 : decode cX12_tellToken 100 = .ok (.getfield 7, 3) := by decide +kernel
theorem dX12_tellToken_103 : decode cX12_tellToken 103 = .ok (.sipush 622, 3) := by decide +kernel
theorem dX12_tellToken_106 : decode cX12_tellToken 106 = .ok (.iconst 4, 1) := by decide +kernel
theorem dX12_tellToken_107 : decode cX12_tellToken 107 = .ok (.iload 5, 2) := by decide +kernel
theorem dX12_tellToken_109 : decode cX12_tellToken 109 = .ok (.imul, 1) := by decide +kernel
theorem dX12_tellToken_110 : decode cX12_tellToken 110 = .ok (.iadd, 1) := by decide +kernel
theorem dX12_tellToken_111 : decode cX12_tellToken 111 = .ok (.iload 6, 2) := by decide +kernel
theorem dX12_tellToken_113 : decode cX12_tellToken 113 = .ok (.iadd, 1) := by decide +kernel
theorem dX12_tellToken_114 : decode cX12_tellToken 114 = .ok (.aload_n 0, 1) := by decide +kernel
theorem dX12_tellToken_115 : decode cX12_tellToken 115 = .ok (.getfield 97, 3) := by decide +kernel
theorem dX12_tellToken_118 : decode cX12_tellToken 118 = .ok (.iload 6, 2) := by decide +kernel
theorem dX12_tellToken_120 : decode cX12_tellToken 120 = .ok (.iaload, 1) := by decide +kernel
theorem dX12_tellToken_121 : decode cX12_tellToken 121 = .ok (.iastore, 1) := by decide +kernel
theorem dX12_tellToken_122 : decode cX12_tellToken 122 = .ok (.iinc 6 1, 3) := by decide +kernel
theorem dX12_tellToken_125 : decode cX12_tellToken 125 = .ok (.goto (-32), 3) := by decide +kernel
theorem dX12_tellToken_128 : decode cX12_tellToken 128 = .ok (.aload_n 0, 1) := by decide +kernel
theorem dX12_tellToken_129 : decode cX12_tellToken 129 = .ok (.getfield 7, 3) := by decide +kernel
theorem dX12_tellToken_132 : decode cX12_tellToken 132 = .ok (.bipush 121, 2) := by decide +kernel
theorem dX12_tellToken_134 : decode cX12_tellToken 134 = .ok (.dup2, 1) := by decide +kernel
theorem dX12_tellToken_135 : decode cX12_tellToken 135 = .ok (.iaload, 1) := by decide +kernel
theorem dX12_tellToken_136 : decode cX12_tellToken 136 = .ok (.iconst 1, 1) := by decide +kernel
theorem dX12_tellToken_137 : decode cX12_tellToken 137 = .ok (.iadd, 1) := by decide +kernel
theorem dX12_tellToken_138 : decode cX12_tellToken 138 = .ok (.iastore, 1) := by decide +kernel
theorem dX12_tellToken_139 : decode cX12_tellToken 139 = .ok (.aload_n 0, 1) := by decide +kernel
theorem dX12_tellToken_140 : decode cX12_tellToken 140 = .ok (.iload 5, 2) := by decide +kernel
theorem dX12_tellToken_142 : decode cX12_tellToken 142 = .ok (.invokevirtual 163, 3) := by decide +kernel
theorem dX12_tellToken_145 : decode cX12_tellToken 145 = .ok (.return_, 1) := by decide +kernel
theorem dX12_againFor_0 : decode cX12_againFor 0 = .ok (.aload_n 0, 1) := by decide +kernel
theorem dX12_againFor_1 : decode cX12_againFor 1 = .ok (.iconst 2, 1) := by decide +kernel
theorem dX12_againFor_2 : decode cX12_againFor 2 = .ok (.invokevirtual 159, 3) := by decide +kernel
theorem dX12_againFor_5 : decode cX12_againFor 5 = .ok (.bipush 12, 2) := by decide +kernel
theorem dX12_againFor_7 : decode cX12_againFor 7 = .ok (.aload_n 0, 1) := by decide +kernel
theorem dX12_againFor_8 : decode cX12_againFor 8 = .ok (.getfield 156, 3) := by decide +kernel
theorem dX12_againFor_11 : decode cX12_againFor 11 = .ok (.iconst 1, 1) := by decide +kernel
theorem dX12_againFor_12 : decode cX12_againFor 12 = .ok (.isub, 1) := by decide +kernel
theorem dX12_againFor_13 : decode cX12_againFor 13 = .ok (.imul, 1) := by decide +kernel
theorem dX12_againFor_14 : decode cX12_againFor 14 = .ok (.istore_n 2, 1) := by decide +kernel
theorem dX12_againFor_15 : decode cX12_againFor 15 = .ok (.iconst 0, 1) := by decide +kernel
theorem dX12_againFor_16 : decode cX12_againFor 16 = .ok (.istore_n 3, 1) := by decide +kernel
theorem dX12_againFor_17 : decode cX12_againFor 17 = .ok (.iload_n 3, 1) := by decide +kernel
theorem dX12_againFor_18 : decode cX12_againFor 18 = .ok (.aload_n 0, 1) := by decide +kernel
theorem dX12_againFor_19 : decode cX12_againFor 19 = .ok (.getfield 7, 3) := by decide +kernel
theorem dX12_againFor_22 : decode cX12_againFor 22 = .ok (.bipush 121, 2) := by decide +kernel
theorem dX12_againFor_24 : decode cX12_againFor 24 = .ok (.iaload, 1) := by decide +kernel
theorem dX12_againFor_25 : decode cX12_againFor 25 = .ok (.if_icmp .ge 131, 3) := by decide +kernel
theorem dX12_againFor_28 : decode cX12_againFor 28 = .ok (.aload_n 0, 1) := by decide +kernel
theorem dX12_againFor_29 : decode cX12_againFor 29 = .ok (.getfield 7, 3) := by decide +kernel
theorem dX12_againFor_32 : decode cX12_againFor 32 = .ok (.sipush 222, 3) := by decide +kernel
theorem dX12_againFor_35 : decode cX12_againFor 35 = .ok (.iload_n 3, 1) := by decide +kernel
theorem dX12_againFor_36 : decode cX12_againFor 36 = .ok (.iadd, 1) := by decide +kernel
theorem dX12_againFor_37 : decode cX12_againFor 37 = .ok (.iaload, 1) := by decide +kernel
theorem dX12_againFor_38 : decode cX12_againFor 38 = .ok (.istore 4, 2) := by decide +kernel
theorem dX12_againFor_40 : decode cX12_againFor 40 = .ok (.aload_n 0, 1) := by decide +kernel
theorem dX12_againFor_41 : decode cX12_againFor 41 = .ok (.getfield 7, 3) := by decide +kernel
theorem dX12_againFor_44 : decode cX12_againFor 44 = .ok (.sipush 322, 3) := by decide +kernel
theorem dX12_againFor_47 : decode cX12_againFor 47 = .ok (.iload_n 3, 1) := by decide +kernel
theorem dX12_againFor_48 : decode cX12_againFor 48 = .ok (.iadd, 1) := by decide +kernel
theorem dX12_againFor_49 : decode cX12_againFor 49 = .ok (.iaload, 1) := by decide +kernel
theorem dX12_againFor_50 : decode cX12_againFor 50 = .ok (.istore 5, 2) := by decide +kernel
theorem dX12_againFor_52 : decode cX12_againFor 52 = .ok (.iload 4, 2) := by decide +kernel
theorem dX12_againFor_54 : decode cX12_againFor 54 = .ok (.sipush 400, 3) := by decide +kernel
theorem dX12_againFor_57 : decode cX12_againFor 57 = .ok (.if_icmp .lt 20, 3) := by decide +kernel
theorem dX12_againFor_60 : decode cX12_againFor 60 = .ok (.aload_n 0, 1) := by decide +kernel
theorem dX12_againFor_61 : decode cX12_againFor 61 = .ok (.getfield 7, 3) := by decide +kernel
theorem dX12_againFor_64 : decode cX12_againFor 64 = .ok (.iconst 1, 1) := by decide +kernel
theorem dX12_againFor_65 : decode cX12_againFor 65 = .ok (.iload 4, 2) := by decide +kernel
theorem dX12_againFor_67 : decode cX12_againFor 67 = .ok (.iadd, 1) := by decide +kernel
theorem dX12_againFor_68 : decode cX12_againFor 68 = .ok (.sipush 400, 3) := by decide +kernel
theorem dX12_againFor_71 : decode cX12_againFor 71 = .ok (.isub, 1) := by decide +kernel
theorem dX12_againFor_72 : decode cX12_againFor 72 = .ok (.iaload, 1) := by decide +kernel
theorem dX12_againFor_73 : decode cX12_againFor 73 = .ok (.iload_n 1, 1) := by decide +kernel
theorem dX12_againFor_74 : decode cX12_againFor 74 = .ok (.if_icmp .eq 28, 3) := by decide +kernel
theorem dX12_againFor_77 : decode cX12_againFor 77 = .ok (.iload 5, 2) := by decide +kernel
theorem dX12_againFor_79 : decode cX12_againFor 79 = .ok (.sipush 400, 3) := by decide +kernel
theorem dX12_againFor_82 : decode cX12_againFor 82 = .ok (.if_icmp .lt 24, 3) := by decide +kernel
theorem dX12_againFor_85 : decode cX12_againFor 85 = .ok (.aload_n 0, 1) := by decide +kernel
theorem dX12_againFor_86 : decode cX12_againFor 86 = .ok (.getfield 7, 3) := by decide +kernel
theorem dX12_againFor_89 : decode cX12_againFor 89 = .ok (.iconst 1, 1) := by decide +kernel
theorem dX12_againFor_90 : decode cX12_againFor 90 = .ok (.iload 5, 2) := by decide +kernel
theorem dX12_againFor_92 : decode cX12_againFor 92 = .ok (.iadd, 1) := by decide +kernel
theorem dX12_againFor_93 : decode cX12_againFor 93 = .ok (.sipush 400, 3) := by decide +kernel
theorem dX12_againFor_96 : decode cX12_againFor 96 = .ok (.isub, 1) := by decide +kernel
theorem dX12_againFor_97 : decode cX12_againFor 97 = .ok (.iaload, 1) := by decide +kernel
theorem dX12_againFor_98 : decode cX12_againFor 98 = .ok (.iload_n 1, 1) := by decide +kernel
theorem dX12_againFor_99 : decode cX12_againFor 99 = .ok (.if_icmp .ne 7, 3) := by decide +kernel
theorem dX12_againFor_102 : decode cX12_againFor 102 = .ok (.iconst 1, 1) := by decide +kernel
theorem dX12_againFor_103 : decode cX12_againFor 103 = .ok (.goto 4, 3) := by decide +kernel
theorem dX12_againFor_106 : decode cX12_againFor 106 = .ok (.iconst 0, 1) := by decide +kernel
theorem dX12_againFor_107 : decode cX12_againFor 107 = .ok (.istore 6, 2) := by decide +kernel
theorem dX12_againFor_109 : decode cX12_againFor 109 = .ok (.iload 6, 2) := by decide +kernel
theorem dX12_againFor_111 : decode cX12_againFor 111 = .ok (.ifCond .eq 39, 3) := by decide +kernel
theorem dX12_againFor_114 : decode cX12_againFor 114 = .ok (.aload_n 0, 1) := by decide +kernel
theorem dX12_againFor_115 : decode cX12_againFor 115 = .ok (.getfield 7, 3) := by decide +kernel
theorem dX12_againFor_118 : decode cX12_againFor 118 = .ok (.sipush 422, 3) := by decide +kernel
theorem dX12_againFor_121 : decode cX12_againFor 121 = .ok (.iload_n 3, 1) := by decide +kernel
theorem dX12_againFor_122 : decode cX12_againFor 122 = .ok (.iadd, 1) := by decide +kernel
theorem dX12_againFor_123 : decode cX12_againFor 123 = .ok (.iaload, 1) := by decide +kernel
theorem dX12_againFor_124 : decode cX12_againFor 124 = .ok (.iconst 1, 1) := by decide +kernel
theorem dX12_againFor_125 : decode cX12_againFor 125 = .ok (.if_icmp .ne 25, 3) := by decide +kernel
theorem dX12_againFor_128 : decode cX12_againFor 128 = .ok (.aload_n 0, 1) := by decide +kernel
theorem dX12_againFor_129 : decode cX12_againFor 129 = .ok (.getfield 91, 3) := by decide +kernel
theorem dX12_againFor_132 : decode cX12_againFor 132 = .ok (.iload_n 2, 1) := by decide +kernel
theorem dX12_againFor_133 : decode cX12_againFor 133 = .ok (.iconst 2, 1) := by decide +kernel
theorem dX12_againFor_134 : decode cX12_againFor 134 = .ok (.iadd, 1) := by decide +kernel
theorem dX12_againFor_135 : decode cX12_againFor 135 = .ok (.iload_n 3, 1) := by decide +kernel
theorem dX12_againFor_136 : decode cX12_againFor 136 = .ok (.bipush 32, 2) := by decide +kernel
theorem dX12_againFor_138 : decode cX12_againFor 138 = .ok (.idiv, 1) := by decide +kernel
theorem dX12_againFor_139 : decode cX12_againFor 139 = .ok (.iadd, 1) := by decide +kernel
theorem dX12_againFor_140 : decode cX12_againFor 140 = .ok (.dup2, 1) := by decide +kernel
theorem dX12_againFor_141 : decode cX12_againFor 141 = .ok (.iaload, 1) := by decide +kernel
theorem dX12_againFor_142 : decode cX12_againFor 142 = .ok (.iconst 1, 1) := by decide +kernel
theorem dX12_againFor_143 : decode cX12_againFor 143 = .ok (.iload_n 3, 1) := by decide +kernel
theorem dX12_againFor_144 : decode cX12_againFor 144 = .ok (.bipush 32, 2) := by decide +kernel
theorem dX12_againFor_146 : decode cX12_againFor 146 = .ok (.irem, 1) := by decide +kernel
theorem dX12_againFor_147 : decode cX12_againFor 147 = .ok (.ishl, 1) := by decide +kernel
theorem dX12_againFor_148 : decode cX12_againFor 148 = .ok (.ior, 1) := by decide +kernel
theorem dX12_againFor_149 : decode cX12_againFor 149 = .ok (.iastore, 1) := by decide +kernel
theorem dX12_againFor_150 : decode cX12_againFor 150 = .ok (.iinc 3 1, 3) := by decide +kernel
theorem dX12_againFor_153 : decode cX12_againFor 153 = .ok (.goto (-136), 3) := by decide +kernel
theorem dX12_againFor_156 : decode cX12_againFor 156 = .ok (.return_, 1) := by decide +kernel
theorem dX12_tellEqual_0 : decode cX12_tellEqual 0 = .ok (.iload_n 1, 1) := by decide +kernel
theorem dX12_tellEqual_1 : decode cX12_tellEqual 1 = .ok (.sipush 400, 3) := by decide +kernel
theorem dX12_tellEqual_4 : decode cX12_tellEqual 4 = .ok (.if_icmp .ge 30, 3) := by decide +kernel
theorem dX12_tellEqual_7 : decode cX12_tellEqual 7 = .ok (.iload_n 2, 1) := by decide +kernel
theorem dX12_tellEqual_8 : decode cX12_tellEqual 8 = .ok (.sipush 400, 3) := by decide +kernel
theorem dX12_tellEqual_11 : decode cX12_tellEqual 11 = .ok (.if_icmp .ge 23, 3) := by decide +kernel
theorem dX12_tellEqual_14 : decode cX12_tellEqual 14 = .ok (.aload_n 0, 1) := by decide +kernel
theorem dX12_tellEqual_15 : decode cX12_tellEqual 15 = .ok (.dup, 1) := by decide +kernel
theorem dX12_tellEqual_16 : decode cX12_tellEqual 16 = .ok (.getfield 133, 3) := by decide +kernel
theorem dX12_tellEqual_19 : decode cX12_tellEqual 19 = .ok (.iload_n 1, 1) := by decide +kernel
theorem dX12_tellEqual_20 : decode cX12_tellEqual 20 = .ok (.iload_n 2, 1) := by decide +kernel
theorem dX12_tellEqual_21 : decode cX12_tellEqual 21 = .ok (.if_icmp .eq 7, 3) := by decide +kernel
theorem dX12_tellEqual_24 : decode cX12_tellEqual 24 = .ok (.iconst 1, 1) := by decide +kernel
theorem dX12_tellEqual_25 : decode cX12_tellEqual 25 = .ok (.goto 4, 3) := by decide +kernel
theorem dX12_tellEqual_28 : decode cX12_tellEqual 28 = .ok (.iconst 0, 1) := by decide +kernel
theorem dX12_tellEqual_29 : decode cX12_tellEqual 29 = .ok (.ior, 1) := by decide +kernel
theorem dX12_tellEqual_30 : decode cX12_tellEqual 30 = .ok (.putfield 133, 3) := by decide +kernel
theorem dX12_tellEqual_33 : decode cX12_tellEqual 33 = .ok (.return_, 1) := by decide +kernel
theorem dX12_tellEqual_34 : decode cX12_tellEqual 34 = .ok (.iload_n 1, 1) := by decide +kernel
theorem dX12_tellEqual_35 : decode cX12_tellEqual 35 = .ok (.sipush 400, 3) := by decide +kernel
theorem dX12_tellEqual_38 : decode cX12_tellEqual 38 = .ok (.if_icmp .lt 10, 3) := by decide +kernel
theorem dX12_tellEqual_41 : decode cX12_tellEqual 41 = .ok (.iload_n 2, 1) := by decide +kernel
theorem dX12_tellEqual_42 : decode cX12_tellEqual 42 = .ok (.sipush 400, 3) := by decide +kernel
theorem dX12_tellEqual_45 : decode cX12_tellEqual 45 = .ok (.if_icmp .ge 103, 3) := by decide +kernel
theorem dX12_tellEqual_48 : decode cX12_tellEqual 48 = .ok (.aload_n 0, 1) := by decide +kernel
theorem dX12_tellEqual_49 : decode cX12_tellEqual 49 = .ok (.getfield 7, 3) := by decide +kernel
theorem dX12_tellEqual_52 : decode cX12_tellEqual 52 = .ok (.iconst 1, 1) := by decide +kernel
theorem dX12_tellEqual_53 : decode cX12_tellEqual 53 = .ok (.iload_n 1, 1) := by decide +kernel
theorem dX12_tellEqual_54 : decode cX12_tellEqual 54 = .ok (.sipush 400, 3) := by decide +kernel
theorem dX12_tellEqual_57 : decode cX12_tellEqual 57 = .ok (.if_icmp .ge 7, 3) := by decide +kernel
theorem dX12_tellEqual_60 : decode cX12_tellEqual 60 = .ok (.iload_n 2, 1) := by decide +kernel
theorem dX12_tellEqual_61 : decode cX12_tellEqual 61 = .ok (.goto 4, 3) := by decide +kernel
theorem dX12_tellEqual_64 : decode cX12_tellEqual 64 = .ok (.iload_n 1, 1) := by decide +kernel
theorem dX12_tellEqual_65 : decode cX12_tellEqual 65 = .ok (.iadd, 1) := by decide +kernel
theorem dX12_tellEqual_66 : decode cX12_tellEqual 66 = .ok (.sipush 400, 3) := by decide +kernel
theorem dX12_tellEqual_69 : decode cX12_tellEqual 69 = .ok (.isub, 1) := by decide +kernel
theorem dX12_tellEqual_70 : decode cX12_tellEqual 70 = .ok (.iaload, 1) := by decide +kernel
theorem dX12_tellEqual_71 : decode cX12_tellEqual 71 = .ok (.istore_n 3, 1) := by decide +kernel
theorem dX12_tellEqual_72 : decode cX12_tellEqual 72 = .ok (.iload_n 1, 1) := by decide +kernel
theorem dX12_tellEqual_73 : decode cX12_tellEqual 73 = .ok (.sipush 400, 3) := by decide +kernel
theorem dX12_tellEqual_76 : decode cX12_tellEqual 76 = .ok (.if_icmp .ge 7, 3) := by decide +kernel
theorem dX12_tellEqual_79 : decode cX12_tellEqual 79 = .ok (.iload_n 1, 1) := by decide +kernel
theorem dX12_tellEqual_80 : decode cX12_tellEqual 80 = .ok (.goto 4, 3) := by decide +kernel
theorem dX12_tellEqual_83 : decode cX12_tellEqual 83 = .ok (.iload_n 2, 1) := by decide +kernel
theorem dX12_tellEqual_84 : decode cX12_tellEqual 84 = .ok (.istore 4, 2) := by decide +kernel
theorem dX12_tellEqual_86 : decode cX12_tellEqual 86 = .ok (.aload_n 0, 1) := by decide +kernel
theorem dX12_tellEqual_87 : decode cX12_tellEqual 87 = .ok (.getfield 7, 3) := by decide +kernel
theorem dX12_tellEqual_90 : decode cX12_tellEqual 90 = .ok (.bipush 61, 2) := by decide +kernel
theorem dX12_tellEqual_92 : decode cX12_tellEqual 92 = .ok (.iload_n 3, 1) := by decide +kernel
theorem dX12_tellEqual_93 : decode cX12_tellEqual 93 = .ok (.iadd, 1) := by decide +kernel
theorem dX12_tellEqual_94 : decode cX12_tellEqual 94 = .ok (.iaload, 1) := by decide +kernel
theorem dX12_tellEqual_95 : decode cX12_tellEqual 95 = .ok (.bipush 100, 2) := by decide +kernel
theorem dX12_tellEqual_97 : decode cX12_tellEqual 97 = .ok (.if_icmp .ne 22, 3) := by decide +kernel
theorem dX12_tellEqual_100 : decode cX12_tellEqual 100 = .ok (.aload_n 0, 1) := by decide +kernel
theorem dX12_tellEqual_101 : decode cX12_tellEqual 101 = .ok (.getfield 7, 3) := by decide +kernel
theorem dX12_tellEqual_104 : decode cX12_tellEqual 104 = .ok (.bipush 61, 2) := by decide +kernel
theorem dX12_tellEqual_106 : decode cX12_tellEqual 106 = .ok (.iload_n 3, 1) := by decide +kernel
theorem dX12_tellEqual_107 : decode cX12_tellEqual 107 = .ok (.iadd, 1) := by decide +kernel
theorem dX12_tellEqual_108 : decode cX12_tellEqual 108 = .ok (.iload 4, 2) := by decide +kernel
theorem dX12_tellEqual_110 : decode cX12_tellEqual 110 = .ok (.iastore, 1) := by decide +kernel
theorem dX12_tellEqual_111 : decode cX12_tellEqual 111 = .ok (.aload_n 0, 1) := by decide +kernel
theorem dX12_tellEqual_112 : decode cX12_tellEqual 112 = .ok (.iload_n 3, 1) := by decide +kernel
theorem dX12_tellEqual_113 : decode cX12_tellEqual 113 = .ok (.invokevirtual 166, 3) := by decide +kernel
theorem dX12_tellEqual_116 : decode cX12_tellEqual 116 = .ok (.goto 31, 3) := by decide +kernel
theorem dX12_tellEqual_119 : decode cX12_tellEqual 119 = .ok (.aload_n 0, 1) := by decide +kernel
theorem dX12_tellEqual_120 : decode cX12_tellEqual 120 = .ok (.dup, 1) := by decide +kernel
theorem dX12_tellEqual_121 : decode cX12_tellEqual 121 = .ok (.getfield 133, 3) := by decide +kernel
theorem dX12_tellEqual_124 : decode cX12_tellEqual 124 = .ok (.aload_n 0, 1) := by decide +kernel
theorem dX12_tellEqual_125 : decode cX12_tellEqual 125 = .ok (.getfield 7, 3) := by decide +kernel
theorem dX12_tellEqual_128 : decode cX12_tellEqual 128 = .ok (.bipush 61, 2) := by decide +kernel
theorem dX12_tellEqual_130 : decode cX12_tellEqual 130 = .ok (.iload_n 3, 1) := by decide +kernel
theorem dX12_tellEqual_131 : decode cX12_tellEqual 131 = .ok (.iadd, 1) := by decide +kernel
theorem dX12_tellEqual_132 : decode cX12_tellEqual 132 = .ok (.iaload, 1) := by decide +kernel
theorem dX12_tellEqual_133 : decode cX12_tellEqual 133 = .ok (.iload 4, 2) := by decide +kernel
theorem dX12_tellEqual_135 : decode cX12_tellEqual 135 = .ok (.if_icmp .eq 7, 3) := by decide +kernel
theorem dX12_tellEqual_138 : decode cX12_tellEqual 138 = .ok (.iconst 1, 1) := by decide +kernel
theorem dX12_tellEqual_139 : decode cX12_tellEqual 139 = .ok (.goto 4, 3) := by decide +kernel
theorem dX12_tellEqual_142 : decode cX12_tellEqual 142 = .ok (.iconst 0, 1) := by decide +kernel
theorem dX12_tellEqual_143 : decode cX12_tellEqual 143 = .ok (.ior, 1) := by decide +kernel
theorem dX12_tellEqual_144 : decode cX12_tellEqual 144 = .ok (.putfield 133, 3) := by decide +kernel
theorem dX12_tellEqual_147 : decode cX12_tellEqual 147 = .ok (.return_, 1) := by decide +kernel
theorem dX12_tellEqual_148 : decode cX12_tellEqual 148 = .ok (.aload_n 0, 1) := by decide +kernel
theorem dX12_tellEqual_149 : decode cX12_tellEqual 149 = .ok (.getfield 7, 3) := by decide +kernel
theorem dX12_tellEqual_152 : decode cX12_tellEqual 152 = .ok (.iconst 1, 1) := by decide +kernel
theorem dX12_tellEqual_153 : decode cX12_tellEqual 153 = .ok (.iload_n 1, 1) := by decide +kernel
theorem dX12_tellEqual_154 : decode cX12_tellEqual 154 = .ok (.iadd, 1) := by decide +kernel
theorem dX12_tellEqual_155 : decode cX12_tellEqual 155 = .ok (.sipush 400, 3) := by decide +kernel
theorem dX12_tellEqual_158 : decode cX12_tellEqual 158 = .ok (.isub, 1) := by decide +kernel
theorem dX12_tellEqual_159 : decode cX12_tellEqual 159 = .ok (.iaload, 1) := by decide +kernel
theorem dX12_tellEqual_160 : decode cX12_tellEqual 160 = .ok (.istore_n 3, 1) := by decide +kernel
theorem dX12_tellEqual_161 : decode cX12_tellEqual 161 = .ok (.aload_n 0, 1) := by decide +kernel
theorem dX12_tellEqual_162 : decode cX12_tellEqual 162 = .ok (.getfield 7, 3) := by decide +kernel
theorem dX12_tellEqual_165 : decode cX12_tellEqual 165 = .ok (.iconst 1, 1) := by decide +kernel
theorem dX12_tellEqual_166 : decode cX12_tellEqual 166 = .ok (.iload_n 2, 1) := by decide +kernel
theorem dX12_tellEqual_167 : decode cX12_tellEqual 167 = .ok (.iadd, 1) := by decide +kernel
theorem dX12_tellEqual_168 : decode cX12_tellEqual 168 = .ok (.sipush 400, 3) := by decide +kernel
theorem dX12_tellEqual_171 : decode cX12_tellEqual 171 = .ok (.isub, 1) := by decide +kernel
theorem dX12_tellEqual_172 : decode cX12_tellEqual 172 = .ok (.iaload, 1) := by decide +kernel
theorem dX12_tellEqual_173 : decode cX12_tellEqual 173 = .ok (.istore 4, 2) := by decide +kernel
theorem dX12_tellEqual_175 : decode cX12_tellEqual 175 = .ok (.iload_n 3, 1) := by decide +kernel
theorem dX12_tellEqual_176 : decode cX12_tellEqual 176 = .ok (.iload 4, 2) := by decide +kernel
theorem dX12_tellEqual_178 : decode cX12_tellEqual 178 = .ok (.if_icmp .ne 4, 3) := by decide +kernel
theorem dX12_tellEqual_181 : decode cX12_tellEqual 181 = .ok (.return_, 1) := by decide +kernel
theorem dX12_tellEqual_182 : decode cX12_tellEqual 182 = .ok (.aload_n 0, 1) := by decide +kernel
theorem dX12_tellEqual_183 : decode cX12_tellEqual 183 = .ok (.getfield 7, 3) := by decide +kernel
theorem dX12_tellEqual_186 : decode cX12_tellEqual 186 = .ok (.bipush 61, 2) := by decide +kernel
theorem dX12_tellEqual_188 : decode cX12_tellEqual 188 = .ok (.iload_n 3, 1) := by decide +kernel
theorem dX12_tellEqual_189 : decode cX12_tellEqual 189 = .ok (.iadd, 1) := by decide +kernel
theorem dX12_tellEqual_190 : decode cX12_tellEqual 190 = .ok (.iaload, 1) := by decide +kernel
theorem dX12_tellEqual_191 : decode cX12_tellEqual 191 = .ok (.istore 5, 2) := by decide +kernel
theorem dX12_tellEqual_193 : decode cX12_tellEqual 193 = .ok (.aload_n 0, 1) := by decide +kernel
theorem dX12_tellEqual_194 : decode cX12_tellEqual 194 = .ok (.getfield 7, 3) := by decide +kernel
theorem dX12_tellEqual_197 : decode cX12_tellEqual 197 = .ok (.bipush 61, 2) := by decide +kernel
theorem dX12_tellEqual_199 : decode cX12_tellEqual 199 = .ok (.iload 4, 2) := by decide +kernel
theorem dX12_tellEqual_201 : decode cX12_tellEqual 201 = .ok (.iadd, 1) := by decide +kernel
theorem dX12_tellEqual_202 : decode cX12_tellEqual 202 = .ok (.iaload, 1) := by decide +kernel
theorem dX12_tellEqual_203 : decode cX12_tellEqual 203 = .ok (.istore 6, 2) := by decide +kernel
theorem dX12_tellEqual_205 : decode cX12_tellEqual 205 = .ok (.iload 5, 2) := by decide +kernel
theorem dX12_tellEqual_207 : decode cX12_tellEqual 207 = .ok (.bipush 100, 2) := by decide +kernel
theorem dX12_tellEqual_209 : decode cX12_tellEqual 209 = .ok (.if_icmp .eq 23, 3) := by decide +kernel
theorem dX12_tellEqual_212 : decode cX12_tellEqual 212 = .ok (.iload 6, 2) := by decide +kernel
theorem dX12_tellEqual_214 : decode cX12_tellEqual 214 = .ok (.bipush 100, 2) := by decide +kernel
theorem dX12_tellEqual_216 : decode cX12_tellEqual 216 = .ok (.if_icmp .eq 16, 3) := by decide +kernel
theorem dX12_tellEqual_219 : decode cX12_tellEqual 219 = .ok (.iload 5, 2) := by decide +kernel
theorem dX12_tellEqual_221 : decode cX12_tellEqual 221 = .ok (.iload 6, 2) := by decide +kernel
theorem dX12_tellEqual_223 : decode cX12_tellEqual 223 = .ok (.if_icmp .eq 9, 3) := by decide +kernel
theorem dX12_tellEqual_226 : decode cX12_tellEqual 226 = .ok (.aload_n 0, 1) := by decide +kernel
theorem dX12_tellEqual_227 : decode cX12_tellEqual 227 = .ok (.iconst 1, 1) := by decide +kernel
theorem dX12_tellEqual_228 : decode cX12_tellEqual 228 = .ok (.putfield 133, 3) := by decide +kernel
theorem dX12_tellEqual_231 : decode cX12_tellEqual 231 = .ok (.return_, 1) := by decide +kernel
theorem dX12_tellEqual_232 : decode cX12_tellEqual 232 = .ok (.iload_n 3, 1) := by decide +kernel
theorem dX12_tellEqual_233 : decode cX12_tellEqual 233 = .ok (.iload 4, 2) := by decide +kernel
theorem dX12_tellEqual_235 : decode cX12_tellEqual 235 = .ok (.if_icmp .ge 7, 3) := by decide +kernel
theorem dX12_tellEqual_238 : decode cX12_tellEqual 238 = .ok (.iload_n 3, 1) := by decide +kernel
theorem dX12_tellEqual_239 : decode cX12_tellEqual 239 = .ok (.goto 5, 3) := by decide +kernel
theorem dX12_tellEqual_242 : decode cX12_tellEqual 242 = .ok (.iload 4, 2) := by decide +kernel
theorem dX12_tellEqual_244 : decode cX12_tellEqual 244 = .ok (.istore 7, 2) := by decide +kernel
theorem dX12_tellEqual_246 : decode cX12_tellEqual 246 = .ok (.iload_n 3, 1) := by decide +kernel
theorem dX12_tellEqual_247 : decode cX12_tellEqual 247 = .ok (.iload 4, 2) := by decide +kernel
theorem dX12_tellEqual_249 : decode cX12_tellEqual 249 = .ok (.if_icmp .ge 8, 3) := by decide +kernel
theorem dX12_tellEqual_252 : decode cX12_tellEqual 252 = .ok (.iload 4, 2) := by decide +kernel
theorem dX12_tellEqual_254 : decode cX12_tellEqual 254 = .ok (.goto 4, 3) := by decide +kernel
theorem dX12_tellEqual_257 : decode cX12_tellEqual 257 = .ok (.iload_n 3, 1) := by decide +kernel
theorem dX12_tellEqual_258 : decode cX12_tellEqual 258 = .ok (.istore 8, 2) := by decide +kernel
theorem dX12_tellEqual_260 : decode cX12_tellEqual 260 = .ok (.aload_n 0, 1) := by decide +kernel
theorem dX12_tellEqual_261 : decode cX12_tellEqual 261 = .ok (.getfield 7, 3) := by decide +kernel
theorem dX12_tellEqual_264 : decode cX12_tellEqual 264 = .ok (.bipush 61, 2) := by decide +kernel
theorem dX12_tellEqual_266 : decode cX12_tellEqual 266 = .ok (.iload 7, 2) := by decide +kernel
theorem dX12_tellEqual_268 : decode cX12_tellEqual 268 = .ok (.iadd, 1) := by decide +kernel
theorem dX12_tellEqual_269 : decode cX12_tellEqual 269 = .ok (.iload 5, 2) := by decide +kernel
theorem dX12_tellEqual_271 : decode cX12_tellEqual 271 = .ok (.bipush 100, 2) := by decide +kernel
theorem dX12_tellEqual_273 : decode cX12_tellEqual 273 = .ok (.if_icmp .ne 8, 3) := by decide +kernel
theorem dX12_tellEqual_276 : decode cX12_tellEqual 276 = .ok (.iload 6, 2) := by decide +kernel
theorem dX12_tellEqual_278 : decode cX12_tellEqual 278 = .ok (.goto 5, 3) := by decide +kernel
theorem dX12_tellEqual_281 : decode cX12_tellEqual 281 = .ok (.iload 5, 2) := by decide +kernel
theorem dX12_tellEqual_283 : decode cX12_tellEqual 283 = .ok (.iastore, 1) := by decide +kernel
theorem dX12_tellEqual_284 : decode cX12_tellEqual 284 = .ok (.iconst 0, 1) := by decide +kernel
theorem dX12_tellEqual_285 : decode cX12_tellEqual 285 = .ok (.istore 9, 2) := by decide +kernel
theorem dX12_tellEqual_287 : decode cX12_tellEqual 287 = .ok (.iload 9, 2) := by decide +kernel
theorem dX12_tellEqual_289 : decode cX12_tellEqual 289 = .ok (.aload_n 0, 1) := by decide +kernel
theorem dX12_tellEqual_290 : decode cX12_tellEqual 290 = .ok (.getfield 7, 3) := by decide +kernel
theorem dX12_tellEqual_293 : decode cX12_tellEqual 293 = .ok (.iconst 0, 1) := by decide +kernel
theorem dX12_tellEqual_294 : decode cX12_tellEqual 294 = .ok (.iaload, 1) := by decide +kernel
theorem dX12_tellEqual_295 : decode cX12_tellEqual 295 = .ok (.if_icmp .ge 46, 3) := by decide +kernel
theorem dX12_tellEqual_298 : decode cX12_tellEqual 298 = .ok (.aload_n 0, 1) := by decide +kernel
theorem dX12_tellEqual_299 : decode cX12_tellEqual 299 = .ok (.getfield 7, 3) := by decide +kernel
theorem dX12_tellEqual_302 : decode cX12_tellEqual 302 = .ok (.iconst 1, 1) := by decide +kernel
theorem dX12_tellEqual_303 : decode cX12_tellEqual 303 = .ok (.iload 9, 2) := by decide +kernel
theorem dX12_tellEqual_305 : decode cX12_tellEqual 305 = .ok (.iadd, 1) := by decide +kernel
theorem dX12_tellEqual_306 : decode cX12_tellEqual 306 = .ok (.aload_n 0, 1) := by decide +kernel
theorem dX12_tellEqual_307 : decode cX12_tellEqual 307 = .ok (.getfield 7, 3) := by decide +kernel
theorem dX12_tellEqual_310 : decode cX12_tellEqual 310 = .ok (.iconst 1, 1) := by decide +kernel
theorem dX12_tellEqual_311 : decode cX12_tellEqual 311 = .ok (.iload 9, 2) := by decide +kernel
theorem dX12_tellEqual_313 : decode cX12_tellEqual 313 = .ok (.iadd, 1) := by decide +kernel
theorem dX12_tellEqual_314 : decode cX12_tellEqual 314 = .ok (.iaload, 1) := by decide +kernel
theorem dX12_tellEqual_315 : decode cX12_tellEqual 315 = .ok (.iload 8, 2) := by decide +kernel
theorem dX12_tellEqual_317 : decode cX12_tellEqual 317 = .ok (.if_icmp .ne 8, 3) := by decide +kernel
theorem dX12_tellEqual_320 : decode cX12_tellEqual 320 = .ok (.iload 7, 2) := by decide +kernel
theorem dX12_tellEqual_322 : decode cX12_tellEqual 322 = .ok (.goto 12, 3) := by decide +kernel
theorem dX12_tellEqual_325 : decode cX12_tellEqual 325 = .ok (.aload_n 0, 1) := by decide +kernel
theorem dX12_tellEqual_326 : decode cX12_tellEqual 326 = .ok (.getfield 7, 3) := by decide +kernel
theorem dX12_tellEqual_329 : decode cX12_tellEqual 329 = .ok (.iconst 1, 1) := by decide +kernel
theorem dX12_tellEqual_330 : decode cX12_tellEqual 330 = .ok (.iload 9, 2) := by decide +kernel
theorem dX12_tellEqual_332 : decode cX12_tellEqual 332 = .ok (.iadd, 1) := by decide +kernel
theorem dX12_tellEqual_333 : decode cX12_tellEqual 333 = .ok (.iaload, 1) := by decide +kernel
theorem dX12_tellEqual_334 : decode cX12_tellEqual 334 = .ok (.iastore, 1) := by decide +kernel
theorem dX12_tellEqual_335 : decode cX12_tellEqual 335 = .ok (.iinc 9 1, 3) := by decide +kernel
theorem dX12_tellEqual_338 : decode cX12_tellEqual 338 = .ok (.goto (-51), 3) := by decide +kernel
theorem dX12_tellEqual_341 : decode cX12_tellEqual 341 = .ok (.aload_n 0, 1) := by decide +kernel
theorem dX12_tellEqual_342 : decode cX12_tellEqual 342 = .ok (.iload 7, 2) := by decide +kernel
theorem dX12_tellEqual_344 : decode cX12_tellEqual 344 = .ok (.invokevirtual 166, 3) := by decide +kernel
theorem dX12_tellEqual_347 : decode cX12_tellEqual 347 = .ok (.return_, 1) := by decide +kernel
theorem dX12_fits_0 : decode cX12_fits 0 = .ok (.iload_n 1, 1) := by decide +kernel
theorem dX12_fits_1 : decode cX12_fits 1 = .ok (.sipush 300, 3) := by decide +kernel
theorem dX12_fits_4 : decode cX12_fits 4 = .ok (.if_icmp .ne 5, 3) := by decide +kernel
theorem dX12_fits_7 : decode cX12_fits 7 = .ok (.iconst 1, 1) := by decide +kernel
theorem dX12_fits_8 : decode cX12_fits 8 = .ok (.ireturn, 1) := by decide +kernel
theorem dX12_fits_9 : decode cX12_fits 9 = .ok (.iload_n 1, 1) := by decide +kernel
theorem dX12_fits_10 : decode cX12_fits 10 = .ok (.sipush 200, 3) := by decide +kernel
theorem dX12_fits_13 : decode cX12_fits 13 = .ok (.if_icmp .ge 10, 3) := by decide +kernel
theorem dX12_fits_16 : decode cX12_fits 16 = .ok (.aload_n 0, 1) := by decide +kernel
theorem dX12_fits_17 : decode cX12_fits 17 = .ok (.iload_n 2, 1) := by decide +kernel
theorem dX12_fits_18 : decode cX12_fits 18 = .ok (.iload_n 1, 1) := by decide +kernel
theorem dX12_fits_19 : decode cX12_fits 19 = .ok (.invokevirtual 148, 3) := by decide +kernel
theorem dX12_fits_22 : decode cX12_fits 22 = .ok (.ireturn, 1) := by decide +kernel
theorem dX12_fits_23 : decode cX12_fits 23 = .ok (.iload_n 1, 1) := by decide +kernel
theorem dX12_fits_24 : decode cX12_fits 24 = .ok (.sipush 200, 3) := by decide +kernel
theorem dX12_fits_27 : decode cX12_fits 27 = .ok (.isub, 1) := by decide +kernel
theorem dX12_fits_28 : decode cX12_fits 28 = .ok (.istore_n 3, 1) := by decide +kernel
theorem dX12_fits_29 : decode cX12_fits 29 = .ok (.aload_n 0, 1) := by decide +kernel
theorem dX12_fits_30 : decode cX12_fits 30 = .ok (.getfield 94, 3) := by decide +kernel
theorem dX12_fits_33 : decode cX12_fits 33 = .ok (.iload_n 3, 1) := by decide +kernel
theorem dX12_fits_34 : decode cX12_fits 34 = .ok (.iaload, 1) := by decide +kernel
theorem dX12_fits_35 : decode cX12_fits 35 = .ok (.sipush 300, 3) := by decide +kernel
theorem dX12_fits_38 : decode cX12_fits 38 = .ok (.if_icmp .ne 12, 3) := by decide +kernel
theorem dX12_fits_41 : decode cX12_fits 41 = .ok (.aload_n 0, 1) := by decide +kernel
theorem dX12_fits_42 : decode cX12_fits 42 = .ok (.getfield 94, 3) := by decide +kernel
theorem dX12_fits_45 : decode cX12_fits 45 = .ok (.iload_n 3, 1) := by decide +kernel
theorem dX12_fits_46 : decode cX12_fits 46 = .ok (.iload_n 2, 1) := by decide +kernel
theorem dX12_fits_47 : decode cX12_fits 47 = .ok (.iastore, 1) := by decide +kernel
theorem dX12_fits_48 : decode cX12_fits 48 = .ok (.iconst 1, 1) := by decide +kernel
theorem dX12_fits_49 : decode cX12_fits 49 = .ok (.ireturn, 1) := by decide +kernel
theorem dX12_fits_50 : decode cX12_fits 50 = .ok (.aload_n 0, 1) := by decide +kernel
theorem dX12_fits_51 : decode cX12_fits 51 = .ok (.aload_n 0, 1) := by decide +kernel
theorem dX12_fits_52 : decode cX12_fits 52 = .ok (.getfield 94, 3) := by decide +kernel
theorem dX12_fits_55 : decode cX12_fits 55 = .ok (.iload_n 3, 1) := by decide +kernel
theorem dX12_fits_56 : decode cX12_fits 56 = .ok (.iaload, 1) := by decide +kernel
theorem dX12_fits_57 : decode cX12_fits 57 = .ok (.iload_n 2, 1) := by decide +kernel
theorem dX12_fits_58 : decode cX12_fits 58 = .ok (.invokevirtual 148, 3) := by decide +kernel
theorem dX12_fits_61 : decode cX12_fits 61 = .ok (.ireturn, 1) := by decide +kernel
theorem dX12_termOf_0 : decode cX12_termOf 0 = .ok (.iload_n 1, 1) := by decide +kernel
theorem dX12_termOf_1 : decode cX12_termOf 1 = .ok (.sipush 200, 3) := by decide +kernel
theorem dX12_termOf_4 : decode cX12_termOf 4 = .ok (.sipush 203, 3) := by decide +kernel
theorem dX12_termOf_7 : decode cX12_termOf 7 = .ok (.invokestatic 122, 3) := by decide +kernel
theorem dX12_termOf_10 : decode cX12_termOf 10 = .ok (.ifCond .eq 16, 3) := by decide +kernel
theorem dX12_termOf_13 : decode cX12_termOf 13 = .ok (.aload_n 0, 1) := by decide +kernel
theorem dX12_termOf_14 : decode cX12_termOf 14 = .ok (.getfield 94, 3) := by decide +kernel
theorem dX12_termOf_17 : decode cX12_termOf 17 = .ok (.iload_n 1, 1) := by decide +kernel
theorem dX12_termOf_18 : decode cX12_termOf 18 = .ok (.sipush 200, 3) := by decide +kernel
theorem dX12_termOf_21 : decode cX12_termOf 21 = .ok (.isub, 1) := by decide +kernel
theorem dX12_termOf_22 : decode cX12_termOf 22 = .ok (.iaload, 1) := by decide +kernel
theorem dX12_termOf_23 : decode cX12_termOf 23 = .ok (.goto 4, 3) := by decide +kernel
theorem dX12_termOf_26 : decode cX12_termOf 26 = .ok (.iload_n 1, 1) := by decide +kernel
theorem dX12_termOf_27 : decode cX12_termOf 27 = .ok (.ireturn, 1) := by decide +kernel
theorem dX12_canFire_0 : decode cX12_canFire 0 = .ok (.iconst 0, 1) := by decide +kernel
theorem dX12_canFire_1 : decode cX12_canFire 1 = .ok (.istore 4, 2) := by decide +kernel
theorem dX12_canFire_3 : decode cX12_canFire 3 = .ok (.iload 4, 2) := by decide +kernel
theorem dX12_canFire_5 : decode cX12_canFire 5 = .ok (.iconst 4, 1) := by decide +kernel
theorem dX12_canFire_6 : decode cX12_canFire 6 = .ok (.if_icmp .ge 19, 3) := by decide +kernel
theorem dX12_canFire_9 : decode cX12_canFire 9 = .ok (.aload_n 0, 1) := by decide +kernel
theorem dX12_canFire_10 : decode cX12_canFire 10 = .ok (.getfield 94, 3) := by decide +kernel
theorem dX12_canFire_13 : decode cX12_canFire 13 = .ok (.iload 4, 2) := by decide +kernel
theorem dX12_canFire_15 : decode cX12_canFire 15 = .ok (.sipush 300, 3) := by decide +kernel
theorem dX12_canFire_18 : decode cX12_canFire 18 = .ok (.iastore, 1) := by decide +kernel
theorem dX12_canFire_19 : decode cX12_canFire 19 = .ok (.iinc 4 1, 3) := by decide +kernel
theorem dX12_canFire_22 : decode cX12_canFire 22 = .ok (.goto (-19), 3) := by decide +kernel
theorem dX12_canFire_25 : decode cX12_canFire 25 = .ok (.iconst 0, 1) := by decide +kernel
theorem dX12_canFire_26 : decode cX12_canFire 26 = .ok (.istore 4, 2) := by decide +kernel
theorem dX12_canFire_28 : decode cX12_canFire 28 = .ok (.iload 4, 2) := by decide +kernel
theorem dX12_canFire_30 : decode cX12_canFire 30 = .ok (.aload_n 0, 1) := by decide +kernel
theorem dX12_canFire_31 : decode cX12_canFire 31 = .ok (.getfield 34, 3) := by decide +kernel
theorem dX12_canFire_34 : decode cX12_canFire 34 = .ok (.iload_n 1, 1) := by decide +kernel
theorem dX12_canFire_35 : decode cX12_canFire 35 = .ok (.iaload, 1) := by decide +kernel
theorem dX12_canFire_36 : decode cX12_canFire 36 = .ok (.if_icmp .ge 108, 3) := by decide +kernel
theorem dX12_canFire_39 : decode cX12_canFire 39 = .ok (.bipush 8, 2) := by decide +kernel
theorem dX12_canFire_41 : decode cX12_canFire 41 = .ok (.iload_n 1, 1) := by decide +kernel
theorem dX12_canFire_42 : decode cX12_canFire 42 = .ok (.imul, 1) := by decide +kernel
theorem dX12_canFire_43 : decode cX12_canFire 43 = .ok (.iconst 4, 1) := by decide +kernel
theorem dX12_canFire_44 : decode cX12_canFire 44 = .ok (.iload 4, 2) := by decide +kernel
theorem dX12_canFire_46 : decode cX12_canFire 46 = .ok (.imul, 1) := by decide +kernel
theorem dX12_canFire_47 : decode cX12_canFire 47 = .ok (.iadd, 1) := by decide +kernel
theorem dX12_canFire_48 : decode cX12_canFire 48 = .ok (.istore 5, 2) := by decide +kernel
theorem dX12_canFire_50 : decode cX12_canFire 50 = .ok (.iload 4, 2) := by decide +kernel
theorem dX12_canFire_52 : decode cX12_canFire 52 = .ok (.ifCond .ne 7, 3) := by decide +kernel
theorem dX12_canFire_55 : decode cX12_canFire 55 = .ok (.iload_n 2, 1) := by decide +kernel
theorem dX12_canFire_56 : decode cX12_canFire 56 = .ok (.goto 4, 3) := by decide +kernel
theorem dX12_canFire_59 : decode cX12_canFire 59 = .ok (.iload_n 3, 1) := by decide +kernel
theorem dX12_canFire_60 : decode cX12_canFire 60 = .ok (.istore 6, 2) := by decide +kernel
theorem dX12_canFire_62 : decode cX12_canFire 62 = .ok (.aload_n 0, 1) := by decide +kernel
theorem dX12_canFire_63 : decode cX12_canFire 63 = .ok (.getfield 7, 3) := by decide +kernel
theorem dX12_canFire_66 : decode cX12_canFire 66 = .ok (.bipush 122, 2) := by decide +kernel
theorem dX12_canFire_68 : decode cX12_canFire 68 = .ok (.iload 6, 2) := by decide +kernel
theorem dX12_canFire_70 : decode cX12_canFire 70 = .ok (.iadd, 1) := by decide +kernel
theorem dX12_canFire_71 : decode cX12_canFire 71 = .ok (.iaload, 1) := by decide +kernel
theorem dX12_canFire_72 : decode cX12_canFire 72 = .ok (.aload_n 0, 1) := by decide +kernel
theorem dX12_canFire_73 : decode cX12_canFire 73 = .ok (.getfield 37, 3) := by decide +kernel
theorem dX12_canFire_76 : decode cX12_canFire 76 = .ok (.iload 5, 2) := by decide +kernel
theorem dX12_canFire_78 : decode cX12_canFire 78 = .ok (.iaload, 1) := by decide +kernel
theorem dX12_canFire_79 : decode cX12_canFire 79 = .ok (.if_icmp .ne 57, 3) := by decide +kernel
theorem dX12_canFire_82 : decode cX12_canFire 82 = .ok (.aload_n 0, 1) := by decide +kernel
theorem dX12_canFire_83 : decode cX12_canFire 83 = .ok (.aload_n 0, 1) := by decide +kernel
theorem dX12_canFire_84 : decode cX12_canFire 84 = .ok (.getfield 37, 3) := by decide +kernel
theorem dX12_canFire_87 : decode cX12_canFire 87 = .ok (.iload 5, 2) := by decide +kernel
theorem dX12_canFire_89 : decode cX12_canFire 89 = .ok (.iconst 1, 1) := by decide +kernel
theorem dX12_canFire_90 : decode cX12_canFire 90 = .ok (.iadd, 1) := by decide +kernel
theorem dX12_canFire_91 : decode cX12_canFire 91 = .ok (.iaload, 1) := by decide +kernel
theorem dX12_canFire_92 : decode cX12_canFire 92 = .ok (.aload_n 0, 1) := by decide +kernel
theorem dX12_canFire_93 : decode cX12_canFire 93 = .ok (.getfield 7, 3) := by decide +kernel
theorem dX12_canFire_96 : decode cX12_canFire 96 = .ok (.sipush 222, 3) := by decide +kernel
theorem dX12_canFire_99 : decode cX12_canFire 99 = .ok (.iload 6, 2) := by decide +kernel
theorem dX12_canFire_101 : decode cX12_canFire 101 = .ok (.iadd, 1) := by decide +kernel
theorem dX12_canFire_102 : decode cX12_canFire 102 = .ok (.iaload, 1) := by decide +kernel
theorem dX12_canFire_103 : decode cX12_canFire 103 = .ok (.invokevirtual 169, 3) := by decide +kernel
theorem dX12_canFire_106 : decode cX12_canFire 106 = .ok (.ifCond .eq 30, 3) := by decide +kernel
theorem dX12_canFire_109 : decode cX12_canFire 109 = .ok (.aload_n 0, 1) := by decide +kernel
theorem dX12_canFire_110 : decode cX12_canFire 110 = .ok (.aload_n 0, 1) := by decide +kernel
theorem dX12_canFire_111 : decode cX12_canFire 111 = .ok (.getfield 37, 3) := by decide +kernel
theorem dX12_canFire_114 : decode cX12_canFire 114 = .ok (.iload 5, 2) := by decide +kernel
theorem dX12_canFire_116 : decode cX12_canFire 116 = .ok (.iconst 2, 1) := by decide +kernel
theorem dX12_canFire_117 : decode cX12_canFire 117 = .ok (.iadd, 1) := by decide +kernel
theorem dX12_canFire_118 : decode cX12_canFire 118 = .ok (.iaload, 1) := by decide +kernel
theorem dX12_canFire_119 : decode cX12_canFire 119 = .ok (.aload_n 0, 1) := by decide +kernel
theorem dX12_canFire_120 : decode cX12_canFire 120 = .ok (.getfield 7, 3) := by decide +kernel
theorem dX12_canFire_123 : decode cX12_canFire 123 = .ok (.sipush 322, 3) := by decide +kernel
theorem dX12_canFire_126 : decode cX12_canFire 126 = .ok (.iload 6, 2) := by decide +kernel
theorem dX12_canFire_128 : decode cX12_canFire 128 = .ok (.iadd, 1) := by decide +kernel
theorem dX12_canFire_129 : decode cX12_canFire 129 = .ok (.iaload, 1) := by decide +kernel
theorem dX12_canFire_130 : decode cX12_canFire 130 = .ok (.invokevirtual 169, 3) := by decide +kernel
theorem dX12_canFire_133 : decode cX12_canFire 133 = .ok (.ifCond .ne 5, 3) := by decide +kernel
theorem dX12_canFire_136 : decode cX12_canFire 136 = .ok (.iconst 0, 1) := by decide +kernel
theorem dX12_canFire_137 : decode cX12_canFire 137 = .ok (.ireturn, 1) := by decide +kernel
theorem dX12_canFire_138 : decode cX12_canFire 138 = .ok (.iinc 4 1, 3) := by decide +kernel
theorem dX12_canFire_141 : decode cX12_canFire 141 = .ok (.goto (-113), 3) := by decide +kernel
theorem dX12_canFire_144 : decode cX12_canFire 144 = .ok (.iconst 3, 1) := by decide +kernel
theorem dX12_canFire_145 : decode cX12_canFire 145 = .ok (.iload_n 1, 1) := by decide +kernel
theorem dX12_canFire_146 : decode cX12_canFire 146 = .ok (.imul, 1) := by decide +kernel
theorem dX12_canFire_147 : decode cX12_canFire 147 = .ok (.istore 4, 2) := by decide +kernel
theorem dX12_canFire_149 : decode cX12_canFire 149 = .ok (.aload_n 0, 1) := by decide +kernel
theorem dX12_canFire_150 : decode cX12_canFire 150 = .ok (.getfield 40, 3) := by decide +kernel
theorem dX12_canFire_153 : decode cX12_canFire 153 = .ok (.iload 4, 2) := by decide +kernel
theorem dX12_canFire_155 : decode cX12_canFire 155 = .ok (.iaload, 1) := by decide +kernel
theorem dX12_canFire_156 : decode cX12_canFire 156 = .ok (.iconst (-1), 1) := by decide +kernel
theorem dX12_canFire_157 : decode cX12_canFire 157 = .ok (.if_icmp .eq 60, 3) := by decide +kernel
theorem dX12_canFire_160 : decode cX12_canFire 160 = .ok (.aload_n 0, 1) := by decide +kernel
theorem dX12_canFire_161 : decode cX12_canFire 161 = .ok (.aload_n 0, 1) := by decide +kernel
theorem dX12_canFire_162 : decode cX12_canFire 162 = .ok (.getfield 40, 3) := by decide +kernel
theorem dX12_canFire_165 : decode cX12_canFire 165 = .ok (.iload 4, 2) := by decide +kernel
theorem dX12_canFire_167 : decode cX12_canFire 167 = .ok (.iaload, 1) := by decide +kernel
theorem dX12_canFire_168 : decode cX12_canFire 168 = .ok (.aload_n 0, 1) := by decide +kernel
theorem dX12_canFire_169 : decode cX12_canFire 169 = .ok (.aload_n 0, 1) := by decide +kernel
theorem dX12_canFire_170 : decode cX12_canFire 170 = .ok (.getfield 40, 3) := by decide +kernel
theorem dX12_canFire_173 : decode cX12_canFire 173 = .ok (.iload 4, 2) := by decide +kernel
theorem dX12_canFire_175 : decode cX12_canFire 175 = .ok (.iconst 1, 1) := by decide +kernel
theorem dX12_canFire_176 : decode cX12_canFire 176 = .ok (.iadd, 1) := by decide +kernel
theorem dX12_canFire_177 : decode cX12_canFire 177 = .ok (.iaload, 1) := by decide +kernel
theorem dX12_canFire_178 : decode cX12_canFire 178 = .ok (.invokevirtual 172, 3) := by decide +kernel
theorem dX12_canFire_181 : decode cX12_canFire 181 = .ok (.aload_n 0, 1) := by decide +kernel
theorem dX12_canFire_182 : decode cX12_canFire 182 = .ok (.getfield 40, 3) := by decide +kernel
theorem dX12_canFire_185 : decode cX12_canFire 185 = .ok (.iload 4, 2) := by decide +kernel
theorem dX12_canFire_187 : decode cX12_canFire 187 = .ok (.iaload, 1) := by decide +kernel
theorem dX12_canFire_188 : decode cX12_canFire 188 = .ok (.iconst 3, 1) := by decide +kernel
theorem dX12_canFire_189 : decode cX12_canFire 189 = .ok (.if_icmp .ne 7, 3) := by decide +kernel
theorem dX12_canFire_192 : decode cX12_canFire 192 = .ok (.iconst 0, 1) := by decide +kernel
theorem dX12_canFire_193 : decode cX12_canFire 193 = .ok (.goto 16, 3) := by decide +kernel
theorem dX12_canFire_196 : decode cX12_canFire 196 = .ok (.aload_n 0, 1) := by decide +kernel
theorem dX12_canFire_197 : decode cX12_canFire 197 = .ok (.aload_n 0, 1) := by decide +kernel
theorem dX12_canFire_198 : decode cX12_canFire 198 = .ok (.getfield 40, 3) := by decide +kernel
theorem dX12_canFire_201 : decode cX12_canFire 201 = .ok (.iload 4, 2) := by decide +kernel
theorem dX12_canFire_203 : decode cX12_canFire 203 = .ok (.iconst 2, 1) := by decide +kernel
theorem dX12_canFire_204 : decode cX12_canFire 204 = .ok (.iadd, 1) := by decide +kernel
theorem dX12_canFire_205 : decode cX12_canFire 205 = .ok (.iaload, 1) := by decide +kernel
theorem dX12_canFire_206 : decode cX12_canFire 206 = .ok (.invokevirtual 172, 3) := by decide +kernel
theorem dX12_canFire_209 : decode cX12_canFire 209 = .ok (.invokevirtual 175, 3) := by decide +kernel
theorem dX12_canFire_212 : decode cX12_canFire 212 = .ok (.ifCond .ne 5, 3) := by decide +kernel
theorem dX12_canFire_215 : decode cX12_canFire 215 = .ok (.iconst 0, 1) := by decide +kernel
theorem dX12_canFire_216 : decode cX12_canFire 216 = .ok (.ireturn, 1) := by decide +kernel
theorem dX12_canFire_217 : decode cX12_canFire 217 = .ok (.aload_n 0, 1) := by decide +kernel
theorem dX12_canFire_218 : decode cX12_canFire 218 = .ok (.iload_n 1, 1) := by decide +kernel
theorem dX12_canFire_219 : decode cX12_canFire 219 = .ok (.invokevirtual 178, 3) := by decide +kernel
theorem dX12_canFire_222 : decode cX12_canFire 222 = .ok (.istore 5, 2) := by decide +kernel
theorem dX12_canFire_224 : decode cX12_canFire 224 = .ok (.iconst 0, 1) := by decide +kernel
theorem dX12_canFire_225 : decode cX12_canFire 225 = .ok (.istore 6, 2) := by decide +kernel
theorem dX12_canFire_227 : decode cX12_canFire 227 = .ok (.iload 6, 2) := by decide +kernel
theorem dX12_canFire_229 : decode cX12_canFire 229 = .ok (.aload_n 0, 1) := by decide +kernel
theorem dX12_canFire_230 : decode cX12_canFire 230 = .ok (.getfield 7, 3) := by decide +kernel
theorem dX12_canFire_233 : decode cX12_canFire 233 = .ok (.sipush 1022, 3) := by decide +kernel
theorem dX12_canFire_236 : decode cX12_canFire 236 = .ok (.iaload, 1) := by decide +kernel
theorem dX12_canFire_237 : decode cX12_canFire 237 = .ok (.if_icmp .ge 71, 3) := by decide +kernel
theorem dX12_canFire_240 : decode cX12_canFire 240 = .ok (.iload 5, 2) := by decide +kernel
theorem dX12_canFire_242 : decode cX12_canFire 242 = .ok (.ifCond .ne 66, 3) := by decide +kernel
theorem dX12_canFire_245 : decode cX12_canFire 245 = .ok (.aload_n 0, 1) := by decide +kernel
theorem dX12_canFire_246 : decode cX12_canFire 246 = .ok (.getfield 7, 3) := by decide +kernel
theorem dX12_canFire_249 : decode cX12_canFire 249 = .ok (.sipush 1023, 3) := by decide +kernel
theorem dX12_canFire_252 : decode cX12_canFire 252 = .ok (.iconst 3, 1) := by decide +kernel
theorem dX12_canFire_253 : decode cX12_canFire 253 = .ok (.iload 6, 2) := by decide +kernel
theorem dX12_canFire_255 : decode cX12_canFire 255 = .ok (.imul, 1) := by decide +kernel
theorem dX12_canFire_256 : decode cX12_canFire 256 = .ok (.iadd, 1) := by decide +kernel
theorem dX12_canFire_257 : decode cX12_canFire 257 = .ok (.iaload, 1) := by decide +kernel
theorem dX12_canFire_258 : decode cX12_canFire 258 = .ok (.iload_n 1, 1) := by decide +kernel
theorem dX12_canFire_259 : decode cX12_canFire 259 = .ok (.if_icmp .ne 43, 3) := by decide +kernel
theorem dX12_canFire_262 : decode cX12_canFire 262 = .ok (.aload_n 0, 1) := by decide +kernel
theorem dX12_canFire_263 : decode cX12_canFire 263 = .ok (.getfield 7, 3) := by decide +kernel
theorem dX12_canFire_266 : decode cX12_canFire 266 = .ok (.sipush 1023, 3) := by decide +kernel
theorem dX12_canFire_269 : decode cX12_canFire 269 = .ok (.iconst 3, 1) := by decide +kernel
theorem dX12_canFire_270 : decode cX12_canFire 270 = .ok (.iload 6, 2) := by decide +kernel
theorem dX12_canFire_272 : decode cX12_canFire 272 = .ok (.imul, 1) := by decide +kernel
theorem dX12_canFire_273 : decode cX12_canFire 273 = .ok (.iadd, 1) := by decide +kernel
theorem dX12_canFire_274 : decode cX12_canFire 274 = .ok (.iconst 1, 1) := by decide +kernel
theorem dX12_canFire_275 : decode cX12_canFire 275 = .ok (.iadd, 1) := by decide +kernel
theorem dX12_canFire_276 : decode cX12_canFire 276 = .ok (.iaload, 1) := by decide +kernel
theorem dX12_canFire_277 : decode cX12_canFire 277 = .ok (.iload_n 2, 1) := by decide +kernel
theorem dX12_canFire_278 : decode cX12_canFire 278 = .ok (.if_icmp .ne 24, 3) := by decide +kernel
theorem dX12_canFire_281 : decode cX12_canFire 281 = .ok (.aload_n 0, 1) := by decide +kernel
theorem dX12_canFire_282 : decode cX12_canFire 282 = .ok (.getfield 7, 3) := by decide +kernel
theorem dX12_canFire_285 : decode cX12_canFire 285 = .ok (.sipush 1023, 3) := by decide +kernel
theorem dX12_canFire_288 : decode cX12_canFire 288 = .ok (.iconst 3, 1) := by decide +kernel
theorem dX12_canFire_289 : decode cX12_canFire 289 = .ok (.iload 6, 2) := by decide +kernel
theorem dX12_canFire_291 : decode cX12_canFire 291 = .ok (.imul, 1) := by decide +kernel
theorem dX12_canFire_292 : decode cX12_canFire 292 = .ok (.iadd, 1) := by decide +kernel
theorem dX12_canFire_293 : decode cX12_canFire 293 = .ok (.iconst 2, 1) := by decide +kernel
theorem dX12_canFire_294 : decode cX12_canFire 294 = .ok (.iadd, 1) := by decide +kernel
theorem dX12_canFire_295 : decode cX12_canFire 295 = .ok (.iaload, 1) := by decide +kernel
theorem dX12_canFire_296 : decode cX12_canFire 296 = .ok (.iload_n 3, 1) := by decide +kernel
theorem dX12_canFire_297 : decode cX12_canFire 297 = .ok (.if_icmp .ne 5, 3) := by decide +kernel
theorem dX12_canFire_300 : decode cX12_canFire 300 = .ok (.iconst 0, 1) := by decide +kernel
theorem dX12_canFire_301 : decode cX12_canFire 301 = .ok (.ireturn, 1) := by decide +kernel
theorem dX12_canFire_302 : decode cX12_canFire 302 = .ok (.iinc 6 1, 3) := by decide +kernel
theorem dX12_canFire_305 : decode cX12_canFire 305 = .ok (.goto (-78), 3) := by decide +kernel
theorem dX12_canFire_308 : decode cX12_canFire 308 = .ok (.iconst 1, 1) := by decide +kernel
theorem dX12_canFire_309 : decode cX12_canFire 309 = .ok (.ireturn, 1) := by decide +kernel
theorem dX12_removes_0 : decode cX12_removes 0 = .ok (.aload_n 0, 1) := by decide +kernel
theorem dX12_removes_1 : decode cX12_removes 1 = .ok (.getfield 37, 3) := by decide +kernel
theorem dX12_removes_4 : decode cX12_removes 4 = .ok (.bipush 8, 2) := by decide +kernel
theorem dX12_removes_6 : decode cX12_removes 6 = .ok (.iload_n 1, 1) := by decide +kernel
theorem dX12_removes_7 : decode cX12_removes 7 = .ok (.imul, 1) := by decide +kernel
theorem dX12_removes_8 : decode cX12_removes 8 = .ok (.iconst 3, 1) := by decide +kernel
theorem dX12_removes_9 : decode cX12_removes 9 = .ok (.iadd, 1) := by decide +kernel
theorem dX12_removes_10 : decode cX12_removes 10 = .ok (.iaload, 1) := by decide +kernel
theorem dX12_removes_11 : decode cX12_removes 11 = .ok (.ifCond .eq 28, 3) := by decide +kernel
theorem dX12_removes_14 : decode cX12_removes 14 = .ok (.aload_n 0, 1) := by decide +kernel
theorem dX12_removes_15 : decode cX12_removes 15 = .ok (.getfield 34, 3) := by decide +kernel
theorem dX12_removes_18 : decode cX12_removes 18 = .ok (.iload_n 1, 1) := by decide +kernel
theorem dX12_removes_19 : decode cX12_removes 19 = .ok (.iaload, 1) := by decide +kernel
theorem dX12_removes_20 : decode cX12_removes 20 = .ok (.iconst 2, 1) := by decide +kernel
theorem dX12_removes_21 : decode cX12_removes 21 = .ok (.if_icmp .ne 22, 3) := by decide +kernel
theorem dX12_removes_24 : decode cX12_removes 24 = .ok (.aload_n 0, 1) := by decide +kernel
theorem dX12_removes_25 : decode cX12_removes 25 = .ok (.getfield 37, 3) := by decide +kernel
theorem dX12_removes_28 : decode cX12_removes 28 = .ok (.bipush 8, 2) := by decide +kernel
theorem dX12_removes_30 : decode cX12_removes 30 = .ok (.iload_n 1, 1) := by decide +kernel
theorem dX12_removes_31 : decode cX12_removes 31 = .ok (.imul, 1) := by decide +kernel
theorem dX12_removes_32 : decode cX12_removes 32 = .ok (.bipush 7, 2) := by decide +kernel
theorem dX12_removes_34 : decode cX12_removes 34 = .ok (.iadd, 1) := by decide +kernel
theorem dX12_removes_35 : decode cX12_removes 35 = .ok (.iaload, 1) := by decide +kernel
theorem dX12_removes_36 : decode cX12_removes 36 = .ok (.ifCond .ne 7, 3) := by decide +kernel
theorem dX12_removes_39 : decode cX12_removes 39 = .ok (.iconst 1, 1) := by decide +kernel
theorem dX12_removes_40 : decode cX12_removes 40 = .ok (.goto 4, 3) := by decide +kernel
theorem dX12_removes_43 : decode cX12_removes 43 = .ok (.iconst 0, 1) := by decide +kernel
theorem dX12_removes_44 : decode cX12_removes 44 = .ok (.ireturn, 1) := by decide +kernel
theorem dX12_addSlice_0 : decode cX12_addSlice 0 = .ok (.iconst 0, 1) := by decide +kernel
theorem dX12_addSlice_1 : decode cX12_addSlice 1 = .ok (.istore_n 2, 1) := by decide +kernel
theorem dX12_addSlice_2 : decode cX12_addSlice 2 = .ok (.iload_n 2, 1) := by decide +kernel
theorem dX12_addSlice_3 : decode cX12_addSlice 3 = .ok (.iconst 4, 1) := by decide +kernel
theorem dX12_addSlice_4 : decode cX12_addSlice 4 = .ok (.if_icmp .ge 32, 3) := by decide +kernel
theorem dX12_addSlice_7 : decode cX12_addSlice 7 = .ok (.aload_n 0, 1) := by decide +kernel
theorem dX12_addSlice_8 : decode cX12_addSlice 8 = .ok (.getfield 97, 3) := by decide +kernel
theorem dX12_addSlice_11 : decode cX12_addSlice 11 = .ok (.iload_n 2, 1) := by decide +kernel
theorem dX12_addSlice_12 : decode cX12_addSlice 12 = .ok (.dup2, 1) := by decide +kernel
theorem dX12_addSlice_13 : decode cX12_addSlice 13 = .ok (.iaload, 1) := by decide +kernel
theorem dX12_addSlice_14 : decode cX12_addSlice 14 = .ok (.aload_n 0, 1) := by decide +kernel
theorem dX12_addSlice_15 : decode cX12_addSlice 15 = .ok (.getfield 7, 3) := by decide +kernel
theorem dX12_addSlice_18 : decode cX12_addSlice 18 = .ok (.sipush 622, 3) := by decide +kernel
theorem dX12_addSlice_21 : decode cX12_addSlice 21 = .ok (.iconst 4, 1) := by decide +kernel
theorem dX12_addSlice_22 : decode cX12_addSlice 22 = .ok (.iload_n 1, 1) := by decide +kernel
theorem dX12_addSlice_23 : decode cX12_addSlice 23 = .ok (.imul, 1) := by decide +kernel
theorem dX12_addSlice_24 : decode cX12_addSlice 24 = .ok (.iadd, 1) := by decide +kernel
theorem dX12_addSlice_25 : decode cX12_addSlice 25 = .ok (.iload_n 2, 1) := by decide +kernel
theorem dX12_addSlice_26 : decode cX12_addSlice 26 = .ok (.iadd, 1) := by decide +kernel
theorem dX12_addSlice_27 : decode cX12_addSlice 27 = .ok (.iaload, 1) := by decide +kernel
theorem dX12_addSlice_28 : decode cX12_addSlice 28 = .ok (.ior, 1) := by decide +kernel
theorem dX12_addSlice_29 : decode cX12_addSlice 29 = .ok (.iastore, 1) := by decide +kernel
theorem dX12_addSlice_30 : decode cX12_addSlice 30 = .ok (.iinc 2 1, 3) := by decide +kernel
theorem dX12_addSlice_33 : decode cX12_addSlice 33 = .ok (.goto (-31), 3) := by decide +kernel
theorem dX12_addSlice_36 : decode cX12_addSlice 36 = .ok (.aload_n 0, 1) := by decide +kernel
theorem dX12_addSlice_37 : decode cX12_addSlice 37 = .ok (.getfield 97, 3) := by decide +kernel
theorem dX12_addSlice_40 : decode cX12_addSlice 40 = .ok (.iload_n 1, 1) := by decide +kernel
theorem dX12_addSlice_41 : decode cX12_addSlice 41 = .ok (.bipush 32, 2) := by decide +kernel
theorem dX12_addSlice_43 : decode cX12_addSlice 43 = .ok (.idiv, 1) := by decide +kernel
theorem dX12_addSlice_44 : decode cX12_addSlice 44 = .ok (.dup2, 1) := by decide +kernel
theorem dX12_addSlice_45 : decode cX12_addSlice 45 = .ok (.iaload, 1) := by decide +kernel
theorem dX12_addSlice_46 : decode cX12_addSlice 46 = .ok (.iconst 1, 1) := by decide +kernel
theorem dX12_addSlice_47 : decode cX12_addSlice 47 = .ok (.iload_n 1, 1) := by decide +kernel
theorem dX12_addSlice_48 : decode cX12_addSlice 48 = .ok (.bipush 32, 2) := by decide +kernel
theorem dX12_addSlice_50 : decode cX12_addSlice 50 = .ok (.irem, 1) := by decide +kernel
theorem dX12_addSlice_51 : decode cX12_addSlice 51 = .ok (.ishl, 1) := by decide +kernel
theorem dX12_addSlice_52 : decode cX12_addSlice 52 = .ok (.ior, 1) := by decide +kernel
theorem dX12_addSlice_53 : decode cX12_addSlice 53 = .ok (.iastore, 1) := by decide +kernel
theorem dX12_addSlice_54 : decode cX12_addSlice 54 = .ok (.return_, 1) := by decide +kernel
theorem dX12_fire_0 : decode cX12_fire 0 = .ok (.aload_n 0, 1) := by decide +kernel
theorem dX12_fire_1 : decode cX12_fire 1 = .ok (.getfield 181, 3) := by decide +kernel
theorem dX12_fire_4 : decode cX12_fire 4 = .ok (.bipush 60, 2) := by decide +kernel
theorem dX12_fire_6 : decode cX12_fire 6 = .ok (.if_icmp .ne 9, 3) := by decide +kernel
theorem dX12_fire_9 : decode cX12_fire 9 = .ok (.aload_n 0, 1) := by decide +kernel
theorem dX12_fire_10 : decode cX12_fire 10 = .ok (.iconst 1, 1) := by decide +kernel
theorem dX12_fire_11 : decode cX12_fire 11 = .ok (.putfield 133, 3) := by decide +kernel
theorem dX12_fire_14 : decode cX12_fire 14 = .ok (.return_, 1) := by decide +kernel
theorem dX12_fire_15 : decode cX12_fire 15 = .ok (.aload_n 0, 1) := by decide +kernel
theorem dX12_fire_16 : decode cX12_fire 16 = .ok (.dup, 1) := by decide +kernel
theorem dX12_fire_17 : decode cX12_fire 17 = .ok (.getfield 181, 3) := by decide +kernel
theorem dX12_fire_20 : decode cX12_fire 20 = .ok (.iconst 1, 1) := by decide +kernel
theorem dX12_fire_21 : decode cX12_fire 21 = .ok (.iadd, 1) := by decide +kernel
theorem dX12_fire_22 : decode cX12_fire 22 = .ok (.putfield 181, 3) := by decide +kernel
theorem dX12_fire_25 : decode cX12_fire 25 = .ok (.aload_n 0, 1) := by decide +kernel
theorem dX12_fire_26 : decode cX12_fire 26 = .ok (.getfield 7, 3) := by decide +kernel
theorem dX12_fire_29 : decode cX12_fire 29 = .ok (.sipush 7023, 3) := by decide +kernel
theorem dX12_fire_32 : decode cX12_fire 32 = .ok (.iload_n 1, 1) := by decide +kernel
theorem dX12_fire_33 : decode cX12_fire 33 = .ok (.iadd, 1) := by decide +kernel
theorem dX12_fire_34 : decode cX12_fire 34 = .ok (.dup2, 1) := by decide +kernel
theorem dX12_fire_35 : decode cX12_fire 35 = .ok (.iaload, 1) := by decide +kernel
theorem dX12_fire_36 : decode cX12_fire 36 = .ok (.iconst 1, 1) := by decide +kernel
theorem dX12_fire_37 : decode cX12_fire 37 = .ok (.iadd, 1) := by decide +kernel
theorem dX12_fire_38 : decode cX12_fire 38 = .ok (.iastore, 1) := by decide +kernel
theorem dX12_fire_39 : decode cX12_fire 39 = .ok (.aload_n 0, 1) := by decide +kernel
theorem dX12_fire_40 : decode cX12_fire 40 = .ok (.iload_n 1, 1) := by decide +kernel
theorem dX12_fire_41 : decode cX12_fire 41 = .ok (.invokevirtual 178, 3) := by decide +kernel
theorem dX12_fire_44 : decode cX12_fire 44 = .ok (.ifCond .ne 59, 3) := by decide +kernel
theorem dX12_fire_47 : decode cX12_fire 47 = .ok (.sipush 1023, 3) := by decide +kernel
theorem dX12_fire_50 : decode cX12_fire 50 = .ok (.iconst 3, 1) := by decide +kernel
theorem dX12_fire_51 : decode cX12_fire 51 = .ok (.aload_n 0, 1) := by decide +kernel
theorem dX12_fire_52 : decode cX12_fire 52 = .ok (.getfield 7, 3) := by decide +kernel
theorem dX12_fire_55 : decode cX12_fire 55 = .ok (.sipush 1022, 3) := by decide +kernel
theorem dX12_fire_58 : decode cX12_fire 58 = .ok (.iaload, 1) := by decide +kernel
theorem dX12_fire_59 : decode cX12_fire 59 = .ok (.imul, 1) := by decide +kernel
theorem dX12_fire_60 : decode cX12_fire 60 = .ok (.iadd, 1) := by decide +kernel
theorem dX12_fire_61 : decode cX12_fire 61 = .ok (.istore 4, 2) := by decide +kernel
theorem dX12_fire_63 : decode cX12_fire 63 = .ok (.aload_n 0, 1) := by decide +kernel
theorem dX12_fire_64 : decode cX12_fire 64 = .ok (.getfield 7, 3) := by decide +kernel
theorem dX12_fire_67 : decode cX12_fire 67 = .ok (.iload 4, 2) := by decide +kernel
theorem dX12_fire_69 : decode cX12_fire 69 = .ok (.iload_n 1, 1) := by decide +kernel
theorem dX12_fire_70 : decode cX12_fire 70 = .ok (.iastore, 1) := by decide +kernel
theorem dX12_fire_71 : decode cX12_fire 71 = .ok (.aload_n 0, 1) := by decide +kernel
theorem dX12_fire_72 : decode cX12_fire 72 = .ok (.getfield 7, 3) := by decide +kernel
theorem dX12_fire_75 : decode cX12_fire 75 = .ok (.iload 4, 2) := by decide +kernel
theorem dX12_fire_77 : decode cX12_fire 77 = .ok (.iconst 1, 1) := by decide +kernel
theorem dX12_fire_78 : decode cX12_fire 78 = .ok (.iadd, 1) := by decide +kernel
theorem dX12_fire_79 : decode cX12_fire 79 = .ok (.iload_n 2, 1) := by decide +kernel
theorem dX12_fire_80 : decode cX12_fire 80 = .ok (.iastore, 1) := by decide +kernel
theorem dX12_fire_81 : decode cX12_fire 81 = .ok (.aload_n 0, 1) := by decide +kernel
theorem dX12_fire_82 : decode cX12_fire 82 = .ok (.getfield 7, 3) := by decide +kernel
theorem dX12_fire_85 : decode cX12_fire 85 = .ok (.iload 4, 2) := by decide +kernel
theorem dX12_fire_87 : decode cX12_fire 87 = .ok (.iconst 2, 1) := by decide +kernel
theorem dX12_fire_88 : decode cX12_fire 88 = .ok (.iadd, 1) := by decide +kernel
theorem dX12_fire_89 : decode cX12_fire 89 = .ok (.iload_n 3, 1) := by decide +kernel
theorem dX12_fire_90 : decode cX12_fire 90 = .ok (.iastore, 1) := by decide +kernel
theorem dX12_fire_91 : decode cX12_fire 91 = .ok (.aload_n 0, 1) := by decide +kernel
theorem dX12_fire_92 : decode cX12_fire 92 = .ok (.getfield 7, 3) := by decide +kernel
theorem dX12_fire_95 : decode cX12_fire 95 = .ok (.sipush 1022, 3) := by decide +kernel
theorem dX12_fire_98 : decode cX12_fire 98 = .ok (.dup2, 1) := by decide +kernel
theorem dX12_fire_99 : decode cX12_fire 99 = .ok (.iaload, 1) := by decide +kernel
theorem dX12_fire_100 : decode cX12_fire 100 = .ok (.iconst 1, 1) := by decide +kernel
theorem dX12_fire_101 : decode cX12_fire 101 = .ok (.iadd, 1) := by decide +kernel
theorem dX12_fire_102 : decode cX12_fire 102 = .ok (.iastore, 1) := by decide +kernel
theorem dX12_fire_103 : decode cX12_fire 103 = .ok (.iconst 0, 1) := by decide +kernel
theorem dX12_fire_104 : decode cX12_fire 104 = .ok (.istore 4, 2) := by decide +kernel
theorem dX12_fire_106 : decode cX12_fire 106 = .ok (.iload 4, 2) := by decide +kernel
theorem dX12_fire_108 : decode cX12_fire 108 = .ok (.iconst 4, 1) := by decide +kernel
theorem dX12_fire_109 : decode cX12_fire 109 = .ok (.if_icmp .ge 17, 3) := by decide +kernel
theorem dX12_fire_112 : decode cX12_fire 112 = .ok (.aload_n 0, 1) := by decide +kernel
theorem dX12_fire_113 : decode cX12_fire 113 = .ok (.getfield 97, 3) := by decide +kernel
theorem dX12_fire_116 : decode cX12_fire 116 = .ok (.iload 4, 2) := by decide +kernel
theorem dX12_fire_118 : decode cX12_fire 118 = .ok (.iconst 0, 1) := by decide +kernel
theorem dX12_fire_119 : decode cX12_fire 119 = .ok (.iastore, 1) := by decide +kernel
theorem dX12_fire_120 : decode cX12_fire 120 = .ok (.iinc 4 1, 3) := by decide +kernel
theorem dX12_fire_123 : decode cX12_fire 123 = .ok (.goto (-17), 3) := by decide +kernel
theorem dX12_fire_126 : decode cX12_fire 126 = .ok (.aload_n 0, 1) := by decide +kernel
theorem dX12_fire_127 : decode cX12_fire 127 = .ok (.getfield 7, 3) := by decide +kernel
theorem dX12_fire_130 : decode cX12_fire 130 = .ok (.sipush 522, 3) := by decide +kernel
theorem dX12_fire_133 : decode cX12_fire 133 = .ok (.iload_n 2, 1) := by decide +kernel
theorem dX12_fire_134 : decode cX12_fire 134 = .ok (.iadd, 1) := by decide +kernel
theorem dX12_fire_135 : decode cX12_fire 135 = .ok (.iaload, 1) := by decide +kernel
theorem dX12_fire_136 : decode cX12_fire 136 = .ok (.iconst 1, 1) := by decide +kernel
theorem dX12_fire_137 : decode cX12_fire 137 = .ok (.if_icmp .ne 7, 3) := by decide +kernel
theorem dX12_fire_140 : decode cX12_fire 140 = .ok (.iconst 1, 1) := by decide +kernel
theorem dX12_fire_141 : decode cX12_fire 141 = .ok (.goto 4, 3) := by decide +kernel
theorem dX12_fire_144 : decode cX12_fire 144 = .ok (.iconst 0, 1) := by decide +kernel
theorem dX12_fire_145 : decode cX12_fire 145 = .ok (.istore 4, 2) := by decide +kernel
theorem dX12_fire_147 : decode cX12_fire 147 = .ok (.aload_n 0, 1) := by decide +kernel
theorem dX12_fire_148 : decode cX12_fire 148 = .ok (.iload_n 2, 1) := by decide +kernel
theorem dX12_fire_149 : decode cX12_fire 149 = .ok (.invokevirtual 184, 3) := by decide +kernel
theorem dX12_fire_152 : decode cX12_fire 152 = .ok (.iload_n 3, 1) := by decide +kernel
theorem dX12_fire_153 : decode cX12_fire 153 = .ok (.iconst (-1), 1) := by decide +kernel
theorem dX12_fire_154 : decode cX12_fire 154 = .ok (.if_icmp .eq 71, 3) := by decide +kernel
theorem dX12_fire_157 : decode cX12_fire 157 = .ok (.aload_n 0, 1) := by decide +kernel
theorem dX12_fire_158 : decode cX12_fire 158 = .ok (.iload_n 3, 1) := by decide +kernel
theorem dX12_fire_159 : decode cX12_fire 159 = .ok (.invokevirtual 184, 3) := by decide +kernel
theorem dX12_fire_162 : decode cX12_fire 162 = .ok (.iload 4, 2) := by decide +kernel
theorem dX12_fire_164 : decode cX12_fire 164 = .ok (.aload_n 0, 1) := by decide +kernel
theorem dX12_fire_165 : decode cX12_fire 165 = .ok (.getfield 7, 3) := by decide +kernel
theorem dX12_fire_168 : decode cX12_fire 168 = .ok (.sipush 522, 3) := by decide +kernel
theorem dX12_fire_171 : decode cX12_fire 171 = .ok (.iload_n 3, 1) := by decide +kernel
theorem dX12_fire_172 : decode cX12_fire 172 = .ok (.iadd, 1) := by decide +kernel
theorem dX12_fire_173 : decode cX12_fire 173 = .ok (.iaload, 1) := by decide +kernel
theorem dX12_fire_174 : decode cX12_fire 174 = .ok (.iconst 1, 1) := by decide +kernel
theorem dX12_fire_175 : decode cX12_fire 175 = .ok (.if_icmp .ne 7, 3) := by decide +kernel
theorem dX12_fire_178 : decode cX12_fire 178 = .ok (.iconst 1, 1) := by decide +kernel
theorem dX12_fire_179 : decode cX12_fire 179 = .ok (.goto 4, 3) := by decide +kernel
theorem dX12_fire_182 : decode cX12_fire 182 = .ok (.iconst 0, 1) := by decide +kernel
theorem dX12_fire_183 : decode cX12_fire 183 = .ok (.iand, 1) := by decide +kernel
theorem dX12_fire_184 : decode cX12_fire 184 = .ok (.istore 4, 2) := by decide +kernel
theorem dX12_fire_186 : decode cX12_fire 186 = .ok (.aload_n 0, 1) := by decide +kernel
theorem dX12_fire_187 : decode cX12_fire 187 = .ok (.getfield 7, 3) := by decide +kernel
theorem dX12_fire_190 : decode cX12_fire 190 = .ok (.sipush 422, 3) := by decide +kernel
theorem dX12_fire_193 : decode cX12_fire 193 = .ok (.iload_n 3, 1) := by decide +kernel
theorem dX12_fire_194 : decode cX12_fire 194 = .ok (.iadd, 1) := by decide +kernel
theorem dX12_fire_195 : decode cX12_fire 195 = .ok (.aload_n 0, 1) := by decide +kernel
theorem dX12_fire_196 : decode cX12_fire 196 = .ok (.getfield 37, 3) := by decide +kernel
theorem dX12_fire_199 : decode cX12_fire 199 = .ok (.bipush 8, 2) := by decide +kernel
theorem dX12_fire_201 : decode cX12_fire 201 = .ok (.iload_n 1, 1) := by decide +kernel
theorem dX12_fire_202 : decode cX12_fire 202 = .ok (.imul, 1) := by decide +kernel
theorem dX12_fire_203 : decode cX12_fire 203 = .ok (.bipush 7, 2) := by decide +kernel
theorem dX12_fire_205 : decode cX12_fire 205 = .ok (.iadd, 1) := by decide +kernel
theorem dX12_fire_206 : decode cX12_fire 206 = .ok (.iaload, 1) := by decide +kernel
theorem dX12_fire_207 : decode cX12_fire 207 = .ok (.ifCond .ne 7, 3) := by decide +kernel
theorem dX12_fire_210 : decode cX12_fire 210 = .ok (.iconst 0, 1) := by decide +kernel
theorem dX12_fire_211 : decode cX12_fire 211 = .ok (.goto 13, 3) := by decide +kernel
theorem dX12_fire_214 : decode cX12_fire 214 = .ok (.aload_n 0, 1) := by decide +kernel
theorem dX12_fire_215 : decode cX12_fire 215 = .ok (.getfield 7, 3) := by decide +kernel
theorem dX12_fire_218 : decode cX12_fire 218 = .ok (.sipush 422, 3) := by decide +kernel
theorem dX12_fire_221 : decode cX12_fire 221 = .ok (.iload_n 3, 1) := by decide +kernel
theorem dX12_fire_222 : decode cX12_fire 222 = .ok (.iadd, 1) := by decide +kernel
theorem dX12_fire_223 : decode cX12_fire 223 = .ok (.iaload, 1) := by decide +kernel
theorem dX12_fire_224 : decode cX12_fire 224 = .ok (.iastore, 1) := by decide +kernel
theorem dX12_fire_225 : decode cX12_fire 225 = .ok (.aload_n 0, 1) := by decide +kernel
theorem dX12_fire_226 : decode cX12_fire 226 = .ok (.getfield 7, 3) := by decide +kernel
theorem dX12_fire_229 : decode cX12_fire 229 = .ok (.sipush 422, 3) := by decide +kernel
theorem dX12_fire_232 : decode cX12_fire 232 = .ok (.iload_n 2, 1) := by decide +kernel
theorem dX12_fire_233 : decode cX12_fire 233 = .ok (.iadd, 1) := by decide +kernel
theorem dX12_fire_234 : decode cX12_fire 234 = .ok (.aload_n 0, 1) := by decide +kernel
theorem dX12_fire_235 : decode cX12_fire 235 = .ok (.getfield 37, 3) := by decide +kernel
theorem dX12_fire_238 : decode cX12_fire 238 = .ok (.bipush 8, 2) := by decide +kernel
theorem dX12_fire_240 : decode cX12_fire 240 = .ok (.iload_n 1, 1) := by decide +kernel
theorem dX12_fire_241 : decode cX12_fire 241 = .ok (.imul, 1) := by decide +kernel
theorem dX12_fire_242 : decode cX12_fire 242 = .ok (.iconst 3, 1) := by decide +kernel
theorem dX12_fire_243 : decode cX12_fire 243 = .ok (.iadd, 1) := by decide +kernel
theorem dX12_fire_244 : decode cX12_fire 244 = .ok (.iaload, 1) := by decide +kernel
theorem dX12_fire_245 : decode cX12_fire 245 = .ok (.ifCond .ne 7, 3) := by decide +kernel
theorem dX12_fire_248 : decode cX12_fire 248 = .ok (.iconst 0, 1) := by decide +kernel
theorem dX12_fire_249 : decode cX12_fire 249 = .ok (.goto 13, 3) := by decide +kernel
theorem dX12_fire_252 : decode cX12_fire 252 = .ok (.aload_n 0, 1) := by decide +kernel
theorem dX12_fire_253 : decode cX12_fire 253 = .ok (.getfield 7, 3) := by decide +kernel
theorem dX12_fire_256 : decode cX12_fire 256 = .ok (.sipush 422, 3) := by decide +kernel
theorem dX12_fire_259 : decode cX12_fire 259 = .ok (.iload_n 2, 1) := by decide +kernel
theorem dX12_fire_260 : decode cX12_fire 260 = .ok (.iadd, 1) := by decide +kernel
theorem dX12_fire_261 : decode cX12_fire 261 = .ok (.iaload, 1) := by decide +kernel
theorem dX12_fire_262 : decode cX12_fire 262 = .ok (.iastore, 1) := by decide +kernel
theorem dX12_fire_263 : decode cX12_fire 263 = .ok (.aload_n 0, 1) := by decide +kernel
theorem dX12_fire_264 : decode cX12_fire 264 = .ok (.iconst 1, 1) := by decide +kernel
theorem dX12_fire_265 : decode cX12_fire 265 = .ok (.invokevirtual 159, 3) := by decide +kernel
theorem dX12_fire_268 : decode cX12_fire 268 = .ok (.bipush 12, 2) := by decide +kernel
theorem dX12_fire_270 : decode cX12_fire 270 = .ok (.aload_n 0, 1) := by decide +kernel
theorem dX12_fire_271 : decode cX12_fire 271 = .ok (.getfield 156, 3) := by decide +kernel
theorem dX12_fire_274 : decode cX12_fire 274 = .ok (.iconst 1, 1) := by decide +kernel
theorem dX12_fire_275 : decode cX12_fire 275 = .ok (.isub, 1) := by decide +kernel
theorem dX12_fire_276 : decode cX12_fire 276 = .ok (.imul, 1) := by decide +kernel
theorem dX12_fire_277 : decode cX12_fire 277 = .ok (.istore 5, 2) := by decide +kernel
theorem dX12_fire_279 : decode cX12_fire 279 = .ok (.aload_n 0, 1) := by decide +kernel
theorem dX12_fire_280 : decode cX12_fire 280 = .ok (.getfield 91, 3) := by decide +kernel
theorem dX12_fire_283 : decode cX12_fire 283 = .ok (.iload 5, 2) := by decide +kernel
theorem dX12_fire_285 : decode cX12_fire 285 = .ok (.iconst 1, 1) := by decide +kernel
theorem dX12_fire_286 : decode cX12_fire 286 = .ok (.iadd, 1) := by decide +kernel
theorem dX12_fire_287 : decode cX12_fire 287 = .ok (.iload_n 1, 1) := by decide +kernel
theorem dX12_fire_288 : decode cX12_fire 288 = .ok (.iastore, 1) := by decide +kernel
theorem dX12_fire_289 : decode cX12_fire 289 = .ok (.iconst 0, 1) := by decide +kernel
theorem dX12_fire_290 : decode cX12_fire 290 = .ok (.istore 6, 2) := by decide +kernel
theorem dX12_fire_292 : decode cX12_fire 292 = .ok (.iload 6, 2) := by decide +kernel
theorem dX12_fire_294 : decode cX12_fire 294 = .ok (.iconst 4, 1) := by decide +kernel
theorem dX12_fire_295 : decode cX12_fire 295 = .ok (.if_icmp .ge 48, 3) := by decide +kernel
theorem dX12_fire_298 : decode cX12_fire 298 = .ok (.aload_n 0, 1) := by decide +kernel
theorem dX12_fire_299 : decode cX12_fire 299 = .ok (.getfield 91, 3) := by decide +kernel
theorem dX12_fire_302 : decode cX12_fire 302 = .ok (.iload 5, 2) := by decide +kernel
theorem dX12_fire_304 : decode cX12_fire 304 = .ok (.iconst 3, 1) := by decide +kernel
theorem dX12_fire_305 : decode cX12_fire 305 = .ok (.iadd, 1) := by decide +kernel
theorem dX12_fire_306 : decode cX12_fire 306 = .ok (.iload 6, 2) := by decide +kernel
theorem dX12_fire_308 : decode cX12_fire 308 = .ok (.iadd, 1) := by decide +kernel
theorem dX12_fire_309 : decode cX12_fire 309 = .ok (.aload_n 0, 1) := by decide +kernel
theorem dX12_fire_310 : decode cX12_fire 310 = .ok (.getfield 94, 3) := by decide +kernel
theorem dX12_fire_313 : decode cX12_fire 313 = .ok (.iload 6, 2) := by decide +kernel
theorem dX12_fire_315 : decode cX12_fire 315 = .ok (.iaload, 1) := by decide +kernel
theorem dX12_fire_316 : decode cX12_fire 316 = .ok (.iastore, 1) := by decide +kernel
theorem dX12_fire_317 : decode cX12_fire 317 = .ok (.aload_n 0, 1) := by decide +kernel
theorem dX12_fire_318 : decode cX12_fire 318 = .ok (.getfield 91, 3) := by decide +kernel
theorem dX12_fire_321 : decode cX12_fire 321 = .ok (.iload 5, 2) := by decide +kernel
theorem dX12_fire_323 : decode cX12_fire 323 = .ok (.bipush 7, 2) := by decide +kernel
theorem dX12_fire_325 : decode cX12_fire 325 = .ok (.iadd, 1) := by decide +kernel
theorem dX12_fire_326 : decode cX12_fire 326 = .ok (.iload 6, 2) := by decide +kernel
theorem dX12_fire_328 : decode cX12_fire 328 = .ok (.iadd, 1) := by decide +kernel
theorem dX12_fire_329 : decode cX12_fire 329 = .ok (.aload_n 0, 1) := by decide +kernel
theorem dX12_fire_330 : decode cX12_fire 330 = .ok (.getfield 97, 3) := by decide +kernel
theorem dX12_fire_333 : decode cX12_fire 333 = .ok (.iload 6, 2) := by decide +kernel
theorem dX12_fire_335 : decode cX12_fire 335 = .ok (.iaload, 1) := by decide +kernel
theorem dX12_fire_336 : decode cX12_fire 336 = .ok (.iastore, 1) := by decide +kernel
theorem dX12_fire_337 : decode cX12_fire 337 = .ok (.iinc 6 1, 3) := by decide +kernel
theorem dX12_fire_340 : decode cX12_fire 340 = .ok (.goto (-48), 3) := by decide +kernel
theorem dX12_fire_343 : decode cX12_fire 343 = .ok (.aload_n 0, 1) := by decide +kernel
theorem dX12_fire_344 : decode cX12_fire 344 = .ok (.getfield 91, 3) := by decide +kernel
theorem dX12_fire_347 : decode cX12_fire 347 = .ok (.iload 5, 2) := by decide +kernel
theorem dX12_fire_349 : decode cX12_fire 349 = .ok (.bipush 11, 2) := by decide +kernel
theorem dX12_fire_351 : decode cX12_fire 351 = .ok (.iadd, 1) := by decide +kernel
theorem dX12_fire_352 : decode cX12_fire 352 = .ok (.iload 4, 2) := by decide +kernel
theorem dX12_fire_354 : decode cX12_fire 354 = .ok (.ifCond .eq 7, 3) := by decide +kernel
theorem dX12_fire_357 : decode cX12_fire 357 = .ok (.iconst 1, 1) := by decide +kernel
theorem dX12_fire_358 : decode cX12_fire 358 = .ok (.goto 4, 3) := by decide +kernel
theorem dX12_fire_361 : decode cX12_fire 361 = .ok (.iconst 0, 1) := by decide +kernel
theorem dX12_fire_362 : decode cX12_fire 362 = .ok (.iastore, 1) := by decide +kernel
theorem dX12_fire_363 : decode cX12_fire 363 = .ok (.return_, 1) := by decide +kernel
theorem dX12_goActive_0 : decode cX12_goActive 0 = .ok (.aload_n 0, 1) := by decide +kernel
theorem dX12_goActive_1 : decode cX12_goActive 1 = .ok (.getfield 91, 3) := by decide +kernel
theorem dX12_goActive_4 : decode cX12_goActive 4 = .ok (.iload_n 1, 1) := by decide +kernel
theorem dX12_goActive_5 : decode cX12_goActive 5 = .ok (.iconst 1, 1) := by decide +kernel
theorem dX12_goActive_6 : decode cX12_goActive 6 = .ok (.iadd, 1) := by decide +kernel
theorem dX12_goActive_7 : decode cX12_goActive 7 = .ok (.iaload, 1) := by decide +kernel
theorem dX12_goActive_8 : decode cX12_goActive 8 = .ok (.istore_n 2, 1) := by decide +kernel
theorem dX12_goActive_9 : decode cX12_goActive 9 = .ok (.aload_n 0, 1) := by decide +kernel
theorem dX12_goActive_10 : decode cX12_goActive 10 = .ok (.getfield 91, 3) := by decide +kernel
theorem dX12_goActive_13 : decode cX12_goActive 13 = .ok (.iload_n 1, 1) := by decide +kernel
theorem dX12_goActive_14 : decode cX12_goActive 14 = .ok (.iconst 2, 1) := by decide +kernel
theorem dX12_goActive_15 : decode cX12_goActive 15 = .ok (.iadd, 1) := by decide +kernel
theorem dX12_goActive_16 : decode cX12_goActive 16 = .ok (.iaload, 1) := by decide +kernel
theorem dX12_goActive_17 : decode cX12_goActive 17 = .ok (.istore_n 3, 1) := by decide +kernel
theorem dX12_goActive_18 : decode cX12_goActive 18 = .ok (.aload_n 0, 1) := by decide +kernel
theorem dX12_goActive_19 : decode cX12_goActive 19 = .ok (.getfield 91, 3) := by decide +kernel
theorem dX12_goActive_22 : decode cX12_goActive 22 = .ok (.iload_n 1, 1) := by decide +kernel
theorem dX12_goActive_23 : decode cX12_goActive 23 = .ok (.iconst 3, 1) := by decide +kernel
theorem dX12_goActive_24 : decode cX12_goActive 24 = .ok (.iadd, 1) := by decide +kernel
theorem dX12_goActive_25 : decode cX12_goActive 25 = .ok (.iaload, 1) := by decide +kernel
theorem dX12_goActive_26 : decode cX12_goActive 26 = .ok (.istore 4, 2) := by decide +kernel
theorem dX12_goActive_28 : decode cX12_goActive 28 = .ok (.aload_n 0, 1) := by decide +kernel
theorem dX12_goActive_29 : decode cX12_goActive 29 = .ok (.getfield 91, 3) := by decide +kernel
theorem dX12_goActive_32 : decode cX12_goActive 32 = .ok (.iload_n 1, 1) := by decide +kernel
theorem dX12_goActive_33 : decode cX12_goActive 33 = .ok (.iconst 4, 1) := by decide +kernel
theorem dX12_goActive_34 : decode cX12_goActive 34 = .ok (.iadd, 1) := by decide +kernel
theorem dX12_goActive_35 : decode cX12_goActive 35 = .ok (.iaload, 1) := by decide +kernel
theorem dX12_goActive_36 : decode cX12_goActive 36 = .ok (.istore 5, 2) := by decide +kernel
theorem dX12_goActive_38 : decode cX12_goActive 38 = .ok (.aload_n 0, 1) := by decide +kernel
theorem dX12_goActive_39 : decode cX12_goActive 39 = .ok (.getfield 7, 3) := by decide +kernel
theorem dX12_goActive_42 : decode cX12_goActive 42 = .ok (.sipush 422, 3) := by decide +kernel
theorem dX12_goActive_45 : decode cX12_goActive 45 = .ok (.iload_n 2, 1) := by decide +kernel
theorem dX12_goActive_46 : decode cX12_goActive 46 = .ok (.iadd, 1) := by decide +kernel
theorem dX12_goActive_47 : decode cX12_goActive 47 = .ok (.iaload, 1) := by decide +kernel
theorem dX12_goActive_48 : decode cX12_goActive 48 = .ok (.ifCond .eq 11, 3) := by decide +kernel
theorem dX12_goActive_51 : decode cX12_goActive 51 = .ok (.iload_n 3, 1) := by decide +kernel
theorem dX12_goActive_52 : decode cX12_goActive 52 = .ok (.aload_n 0, 1) := by decide +kernel
theorem dX12_goActive_53 : decode cX12_goActive 53 = .ok (.getfield 187, 3) := by decide +kernel
theorem dX12_goActive_56 : decode cX12_goActive 56 = .ok (.if_icmp .ne 14, 3) := by decide +kernel
theorem dX12_goActive_59 : decode cX12_goActive 59 = .ok (.aload_n 0, 1) := by decide +kernel
theorem dX12_goActive_60 : decode cX12_goActive 60 = .ok (.dup, 1) := by decide +kernel
theorem dX12_goActive_61 : decode cX12_goActive 61 = .ok (.getfield 156, 3) := by decide +kernel
theorem dX12_goActive_64 : decode cX12_goActive 64 = .ok (.iconst 1, 1) := by decide +kernel
theorem dX12_goActive_65 : decode cX12_goActive 65 = .ok (.isub, 1) := by decide +kernel
theorem dX12_goActive_66 : decode cX12_goActive 66 = .ok (.putfield 156, 3) := by decide +kernel
theorem dX12_goActive_69 : decode cX12_goActive 69 = .ok (.return_, 1) := by decide +kernel
theorem dX12_goActive_70 : decode cX12_goActive 70 = .ok (.iload 4, 2) := by decide +kernel
theorem dX12_goActive_72 : decode cX12_goActive 72 = .ok (.aload_n 0, 1) := by decide +kernel
theorem dX12_goActive_73 : decode cX12_goActive 73 = .ok (.getfield 34, 3) := by decide +kernel
theorem dX12_goActive_76 : decode cX12_goActive 76 = .ok (.iload_n 3, 1) := by decide +kernel
theorem dX12_goActive_77 : decode cX12_goActive 77 = .ok (.iaload, 1) := by decide +kernel
theorem dX12_goActive_78 : decode cX12_goActive 78 = .ok (.if_icmp .ne 34, 3) := by decide +kernel
theorem dX12_goActive_81 : decode cX12_goActive 81 = .ok (.aload_n 0, 1) := by decide +kernel
theorem dX12_goActive_82 : decode cX12_goActive 82 = .ok (.getfield 91, 3) := by decide +kernel
theorem dX12_goActive_85 : decode cX12_goActive 85 = .ok (.iload_n 1, 1) := by decide +kernel
theorem dX12_goActive_86 : decode cX12_goActive 86 = .ok (.iconst 2, 1) := by decide +kernel
theorem dX12_goActive_87 : decode cX12_goActive 87 = .ok (.iadd, 1) := by decide +kernel
theorem dX12_goActive_88 : decode cX12_goActive 88 = .ok (.dup2, 1) := by decide +kernel
theorem dX12_goActive_89 : decode cX12_goActive 89 = .ok (.iaload, 1) := by decide +kernel
theorem dX12_goActive_90 : decode cX12_goActive 90 = .ok (.iconst 1, 1) := by decide +kernel
theorem dX12_goActive_91 : decode cX12_goActive 91 = .ok (.iadd, 1) := by decide +kernel
theorem dX12_goActive_92 : decode cX12_goActive 92 = .ok (.iastore, 1) := by decide +kernel
theorem dX12_goActive_93 : decode cX12_goActive 93 = .ok (.aload_n 0, 1) := by decide +kernel
theorem dX12_goActive_94 : decode cX12_goActive 94 = .ok (.getfield 91, 3) := by decide +kernel
theorem dX12_goActive_97 : decode cX12_goActive 97 = .ok (.iload_n 1, 1) := by decide +kernel
theorem dX12_goActive_98 : decode cX12_goActive 98 = .ok (.iconst 3, 1) := by decide +kernel
theorem dX12_goActive_99 : decode cX12_goActive 99 = .ok (.iadd, 1) := by decide +kernel
theorem dX12_goActive_100 : decode cX12_goActive 100 = .ok (.iconst 0, 1) := by decide +kernel
theorem dX12_goActive_101 : decode cX12_goActive 101 = .ok (.iastore, 1) := by decide +kernel
theorem dX12_goActive_102 : decode cX12_goActive 102 = .ok (.aload_n 0, 1) := by decide +kernel
theorem dX12_goActive_103 : decode cX12_goActive 103 = .ok (.getfield 91, 3) := by decide +kernel
theorem dX12_goActive_106 : decode cX12_goActive 106 = .ok (.iload_n 1, 1) := by decide +kernel
theorem dX12_goActive_107 : decode cX12_goActive 107 = .ok (.iconst 4, 1) := by decide +kernel
theorem dX12_goActive_108 : decode cX12_goActive 108 = .ok (.iadd, 1) := by decide +kernel
theorem dX12_goActive_109 : decode cX12_goActive 109 = .ok (.iconst 0, 1) := by decide +kernel
theorem dX12_goActive_110 : decode cX12_goActive 110 = .ok (.iastore, 1) := by decide +kernel
theorem dX12_goActive_111 : decode cX12_goActive 111 = .ok (.return_, 1) := by decide +kernel
theorem dX12_goActive_112 : decode cX12_goActive 112 = .ok (.aload_n 0, 1) := by decide +kernel
theorem dX12_goActive_113 : decode cX12_goActive 113 = .ok (.getfield 34, 3) := by decide +kernel
theorem dX12_goActive_116 : decode cX12_goActive 116 = .ok (.iload_n 3, 1) := by decide +kernel
theorem dX12_goActive_117 : decode cX12_goActive 117 = .ok (.iaload, 1) := by decide +kernel
theorem dX12_goActive_118 : decode cX12_goActive 118 = .ok (.iconst 1, 1) := by decide +kernel
theorem dX12_goActive_119 : decode cX12_goActive 119 = .ok (.if_icmp .ne 16, 3) := by decide +kernel
theorem dX12_goActive_122 : decode cX12_goActive 122 = .ok (.iload 5, 2) := by decide +kernel
theorem dX12_goActive_124 : decode cX12_goActive 124 = .ok (.ifCond .le 7, 3) := by decide +kernel
theorem dX12_goActive_127 : decode cX12_goActive 127 = .ok (.iconst 1, 1) := by decide +kernel
theorem dX12_goActive_128 : decode cX12_goActive 128 = .ok (.goto 24, 3) := by decide +kernel
theorem dX12_goActive_131 : decode cX12_goActive 131 = .ok (.iconst 0, 1) := by decide +kernel
theorem dX12_goActive_132 : decode cX12_goActive 132 = .ok (.goto 20, 3) := by decide +kernel
theorem dX12_goActive_135 : decode cX12_goActive 135 = .ok (.iload 5, 2) := by decide +kernel
theorem dX12_goActive_137 : decode cX12_goActive 137 = .ok (.aload_n 0, 1) := by decide +kernel
theorem dX12_goActive_138 : decode cX12_goActive 138 = .ok (.getfield 7, 3) := by decide +kernel
theorem dX12_goActive_141 : decode cX12_goActive 141 = .ok (.bipush 121, 2) := by decide +kernel
theorem dX12_goActive_143 : decode cX12_goActive 143 = .ok (.iaload, 1) := by decide +kernel
theorem dX12_goActive_144 : decode cX12_goActive 144 = .ok (.if_icmp .lt 7, 3) := by decide +kernel
theorem dX12_goActive_147 : decode cX12_goActive 147 = .ok (.iconst 1, 1) := by decide +kernel
theorem dX12_goActive_148 : decode cX12_goActive 148 = .ok (.goto 4, 3) := by decide +kernel
theorem dX12_goActive_151 : decode cX12_goActive 151 = .ok (.iconst 0, 1) := by decide +kernel
theorem dX12_goActive_152 : decode cX12_goActive 152 = .ok (.istore 6, 2) := by decide +kernel
theorem dX12_goActive_154 : decode cX12_goActive 154 = .ok (.iload 6, 2) := by decide +kernel
theorem dX12_goActive_156 : decode cX12_goActive 156 = .ok (.ifCond .eq 25, 3) := by decide +kernel
theorem dX12_goActive_159 : decode cX12_goActive 159 = .ok (.aload_n 0, 1) := by decide +kernel
theorem dX12_goActive_160 : decode cX12_goActive 160 = .ok (.getfield 91, 3) := by decide +kernel
theorem dX12_goActive_163 : decode cX12_goActive 163 = .ok (.iload_n 1, 1) := by decide +kernel
theorem dX12_goActive_164 : decode cX12_goActive 164 = .ok (.iconst 3, 1) := by decide +kernel
theorem dX12_goActive_165 : decode cX12_goActive 165 = .ok (.iadd, 1) := by decide +kernel
theorem dX12_goActive_166 : decode cX12_goActive 166 = .ok (.dup2, 1) := by decide +kernel
theorem dX12_goActive_167 : decode cX12_goActive 167 = .ok (.iaload, 1) := by decide +kernel
theorem dX12_goActive_168 : decode cX12_goActive 168 = .ok (.iconst 1, 1) := by decide +kernel
theorem dX12_goActive_169 : decode cX12_goActive 169 = .ok (.iadd, 1) := by decide +kernel
theorem dX12_goActive_170 : decode cX12_goActive 170 = .ok (.iastore, 1) := by decide +kernel
theorem dX12_goActive_171 : decode cX12_goActive 171 = .ok (.aload_n 0, 1) := by decide +kernel
theorem dX12_goActive_172 : decode cX12_goActive 172 = .ok (.getfield 91, 3) := by decide +kernel
theorem dX12_goActive_175 : decode cX12_goActive 175 = .ok (.iload_n 1, 1) := by decide +kernel
theorem dX12_goActive_176 : decode cX12_goActive 176 = .ok (.iconst 4, 1) := by decide +kernel
theorem dX12_goActive_177 : decode cX12_goActive 177 = .ok (.iadd, 1) := by decide +kernel
theorem dX12_goActive_178 : decode cX12_goActive 178 = .ok (.iconst 0, 1) := by decide +kernel
theorem dX12_goActive_179 : decode cX12_goActive 179 = .ok (.iastore, 1) := by decide +kernel
theorem dX12_goActive_180 : decode cX12_goActive 180 = .ok (.return_, 1) := by decide +kernel
theorem dX12_goActive_181 : decode cX12_goActive 181 = .ok (.aload_n 0, 1) := by decide +kernel
theorem dX12_goActive_182 : decode cX12_goActive 182 = .ok (.getfield 91, 3) := by decide +kernel
theorem dX12_goActive_185 : decode cX12_goActive 185 = .ok (.iload_n 1, 1) := by decide +kernel
theorem dX12_goActive_186 : decode cX12_goActive 186 = .ok (.iconst 4, 1) := by decide +kernel
theorem dX12_goActive_187 : decode cX12_goActive 187 = .ok (.iadd, 1) := by decide +kernel
theorem dX12_goActive_188 : decode cX12_goActive 188 = .ok (.dup2, 1) := by decide +kernel
theorem dX12_goActive_189 : decode cX12_goActive 189 = .ok (.iaload, 1) := by decide +kernel
theorem dX12_goActive_190 : decode cX12_goActive 190 = .ok (.iconst 1, 1) := by decide +kernel
theorem dX12_goActive_191 : decode cX12_goActive 191 = .ok (.iadd, 1) := by decide +kernel
theorem dX12_goActive_192 : decode cX12_goActive 192 = .ok (.iastore, 1) := by decide +kernel
theorem dX12_goActive_193 : decode cX12_goActive 193 = .ok (.aload_n 0, 1) := by decide +kernel
theorem dX12_goActive_194 : decode cX12_goActive 194 = .ok (.getfield 34, 3) := by decide +kernel
theorem dX12_goActive_197 : decode cX12_goActive 197 = .ok (.iload_n 3, 1) := by decide +kernel
theorem dX12_goActive_198 : decode cX12_goActive 198 = .ok (.iaload, 1) := by decide +kernel
theorem dX12_goActive_199 : decode cX12_goActive 199 = .ok (.iconst 1, 1) := by decide +kernel
theorem dX12_goActive_200 : decode cX12_goActive 200 = .ok (.if_icmp .ne 23, 3) := by decide +kernel
theorem dX12_goActive_203 : decode cX12_goActive 203 = .ok (.aload_n 0, 1) := by decide +kernel
theorem dX12_goActive_204 : decode cX12_goActive 204 = .ok (.iload_n 3, 1) := by decide +kernel
theorem dX12_goActive_205 : decode cX12_goActive 205 = .ok (.iload_n 2, 1) := by decide +kernel
theorem dX12_goActive_206 : decode cX12_goActive 206 = .ok (.iconst (-1), 1) := by decide +kernel
theorem dX12_goActive_207 : decode cX12_goActive 207 = .ok (.invokevirtual 190, 3) := by decide +kernel
theorem dX12_goActive_210 : decode cX12_goActive 210 = .ok (.ifCond .eq 81, 3) := by decide +kernel
theorem dX12_goActive_213 : decode cX12_goActive 213 = .ok (.aload_n 0, 1) := by decide +kernel
theorem dX12_goActive_214 : decode cX12_goActive 214 = .ok (.iload_n 3, 1) := by decide +kernel
theorem dX12_goActive_215 : decode cX12_goActive 215 = .ok (.iload_n 2, 1) := by decide +kernel
theorem dX12_goActive_216 : decode cX12_goActive 216 = .ok (.iconst (-1), 1) := by decide +kernel
theorem dX12_goActive_217 : decode cX12_goActive 217 = .ok (.invokevirtual 193, 3) := by decide +kernel
theorem dX12_goActive_220 : decode cX12_goActive 220 = .ok (.goto 71, 3) := by decide +kernel
theorem dX12_goActive_223 : decode cX12_goActive 223 = .ok (.iload 5, 2) := by decide +kernel
theorem dX12_goActive_225 : decode cX12_goActive 225 = .ok (.iload_n 2, 1) := by decide +kernel
theorem dX12_goActive_226 : decode cX12_goActive 226 = .ok (.if_icmp .eq 65, 3) := by decide +kernel
theorem dX12_goActive_229 : decode cX12_goActive 229 = .ok (.aload_n 0, 1) := by decide +kernel
theorem dX12_goActive_230 : decode cX12_goActive 230 = .ok (.getfield 7, 3) := by decide +kernel
theorem dX12_goActive_233 : decode cX12_goActive 233 = .ok (.sipush 422, 3) := by decide +kernel
theorem dX12_goActive_236 : decode cX12_goActive 236 = .ok (.iload 5, 2) := by decide +kernel
theorem dX12_goActive_238 : decode cX12_goActive 238 = .ok (.iadd, 1) := by decide +kernel
theorem dX12_goActive_239 : decode cX12_goActive 239 = .ok (.iaload, 1) := by decide +kernel
theorem dX12_goActive_240 : decode cX12_goActive 240 = .ok (.iconst 1, 1) := by decide +kernel
theorem dX12_goActive_241 : decode cX12_goActive 241 = .ok (.if_icmp .ne 50, 3) := by decide +kernel
theorem dX12_goActive_244 : decode cX12_goActive 244 = .ok (.iload 4, 2) := by decide +kernel
theorem dX12_goActive_246 : decode cX12_goActive 246 = .ok (.ifCond .ne 7, 3) := by decide +kernel
theorem dX12_goActive_249 : decode cX12_goActive 249 = .ok (.iload_n 2, 1) := by decide +kernel
theorem dX12_goActive_250 : decode cX12_goActive 250 = .ok (.goto 5, 3) := by decide +kernel
theorem dX12_goActive_253 : decode cX12_goActive 253 = .ok (.iload 5, 2) := by decide +kernel
theorem dX12_goActive_255 : decode cX12_goActive 255 = .ok (.istore 7, 2) := by decide +kernel
theorem dX12_goActive_257 : decode cX12_goActive 257 = .ok (.iload 4, 2) := by decide +kernel
theorem dX12_goActive_259 : decode cX12_goActive 259 = .ok (.ifCond .ne 8, 3) := by decide +kernel
theorem dX12_goActive_262 : decode cX12_goActive 262 = .ok (.iload 5, 2) := by decide +kernel
theorem dX12_goActive_264 : decode cX12_goActive 264 = .ok (.goto 4, 3) := by decide +kernel
theorem dX12_goActive_267 : decode cX12_goActive 267 = .ok (.iload_n 2, 1) := by decide +kernel
theorem dX12_goActive_268 : decode cX12_goActive 268 = .ok (.istore 8, 2) := by decide +kernel
theorem dX12_goActive_270 : decode cX12_goActive 270 = .ok (.aload_n 0, 1) := by decide +kernel
theorem dX12_goActive_271 : decode cX12_goActive 271 = .ok (.iload_n 3, 1) := by decide +kernel
theorem dX12_goActive_272 : decode cX12_goActive 272 = .ok (.iload 7, 2) := by decide +kernel
theorem dX12_goActive_274 : decode cX12_goActive 274 = .ok (.iload 8, 2) := by decide +kernel
theorem dX12_goActive_276 : decode cX12_goActive 276 = .ok (.invokevirtual 190, 3) := by decide +kernel
theorem dX12_goActive_279 : decode cX12_goActive 279 = .ok (.ifCond .eq 12, 3) := by decide +kernel
theorem dX12_goActive_282 : decode cX12_goActive 282 = .ok (.aload_n 0, 1) := by decide +kernel
theorem dX12_goActive_283 : decode cX12_goActive 283 = .ok (.iload_n 3, 1) := by decide +kernel
theorem dX12_goActive_284 : decode cX12_goActive 284 = .ok (.iload 7, 2) := by decide +kernel
theorem dX12_goActive_286 : decode cX12_goActive 286 = .ok (.iload 8, 2) := by decide +kernel
theorem dX12_goActive_288 : decode cX12_goActive 288 = .ok (.invokevirtual 193, 3) := by decide +kernel
theorem dX12_goActive_291 : decode cX12_goActive 291 = .ok (.return_, 1) := by decide +kernel
theorem dX12_goBodies_0 : decode cX12_goBodies 0 = .ok (.aload_n 0, 1) := by decide +kernel
theorem dX12_goBodies_1 : decode cX12_goBodies 1 = .ok (.getfield 91, 3) := by decide +kernel
theorem dX12_goBodies_4 : decode cX12_goBodies 4 = .ok (.iload_n 1, 1) := by decide +kernel
theorem dX12_goBodies_5 : decode cX12_goBodies 5 = .ok (.iconst 1, 1) := by decide +kernel
theorem dX12_goBodies_6 : decode cX12_goBodies 6 = .ok (.iadd, 1) := by decide +kernel
theorem dX12_goBodies_7 : decode cX12_goBodies 7 = .ok (.iaload, 1) := by decide +kernel
theorem dX12_goBodies_8 : decode cX12_goBodies 8 = .ok (.istore_n 2, 1) := by decide +kernel
theorem dX12_goBodies_9 : decode cX12_goBodies 9 = .ok (.aload_n 0, 1) := by decide +kernel
theorem dX12_goBodies_10 : decode cX12_goBodies 10 = .ok (.getfield 91, 3) := by decide +kernel
theorem dX12_goBodies_13 : decode cX12_goBodies 13 = .ok (.iload_n 1, 1) := by decide +kernel
theorem dX12_goBodies_14 : decode cX12_goBodies 14 = .ok (.iconst 2, 1) := by decide +kernel
theorem dX12_goBodies_15 : decode cX12_goBodies 15 = .ok (.iadd, 1) := by decide +kernel
theorem dX12_goBodies_16 : decode cX12_goBodies 16 = .ok (.iaload, 1) := by decide +kernel
theorem dX12_goBodies_17 : decode cX12_goBodies 17 = .ok (.istore_n 3, 1) := by decide +kernel
theorem dX12_goBodies_18 : decode cX12_goBodies 18 = .ok (.iload_n 3, 1) := by decide +kernel
theorem dX12_goBodies_19 : decode cX12_goBodies 19 = .ok (.aload_n 0, 1) := by decide +kernel
theorem dX12_goBodies_20 : decode cX12_goBodies 20 = .ok (.getfield 43, 3) := by decide +kernel
theorem dX12_goBodies_23 : decode cX12_goBodies 23 = .ok (.iload_n 2, 1) := by decide +kernel
theorem dX12_goBodies_24 : decode cX12_goBodies 24 = .ok (.iaload, 1) := by decide +kernel
theorem dX12_goBodies_25 : decode cX12_goBodies 25 = .ok (.if_icmp .ne 14, 3) := by decide +kernel
theorem dX12_goBodies_28 : decode cX12_goBodies 28 = .ok (.aload_n 0, 1) := by decide +kernel
theorem dX12_goBodies_29 : decode cX12_goBodies 29 = .ok (.dup, 1) := by decide +kernel
theorem dX12_goBodies_30 : decode cX12_goBodies 30 = .ok (.getfield 156, 3) := by decide +kernel
theorem dX12_goBodies_33 : decode cX12_goBodies 33 = .ok (.iconst 1, 1) := by decide +kernel
theorem dX12_goBodies_34 : decode cX12_goBodies 34 = .ok (.isub, 1) := by decide +kernel
theorem dX12_goBodies_35 : decode cX12_goBodies 35 = .ok (.putfield 156, 3) := by decide +kernel
theorem dX12_goBodies_38 : decode cX12_goBodies 38 = .ok (.return_, 1) := by decide +kernel
theorem dX12_goBodies_39 : decode cX12_goBodies 39 = .ok (.aload_n 0, 1) := by decide +kernel
theorem dX12_goBodies_40 : decode cX12_goBodies 40 = .ok (.getfield 91, 3) := by decide +kernel
theorem dX12_goBodies_43 : decode cX12_goBodies 43 = .ok (.iload_n 1, 1) := by decide +kernel
theorem dX12_goBodies_44 : decode cX12_goBodies 44 = .ok (.iconst 2, 1) := by decide +kernel
theorem dX12_goBodies_45 : decode cX12_goBodies 45 = .ok (.iadd, 1) := by decide +kernel
theorem dX12_goBodies_46 : decode cX12_goBodies 46 = .ok (.dup2, 1) := by decide +kernel
theorem dX12_goBodies_47 : decode cX12_goBodies 47 = .ok (.iaload, 1) := by decide +kernel
theorem dX12_goBodies_48 : decode cX12_goBodies 48 = .ok (.iconst 1, 1) := by decide +kernel
theorem dX12_goBodies_49 : decode cX12_goBodies 49 = .ok (.iadd, 1) := by decide +kernel
theorem dX12_goBodies_50 : decode cX12_goBodies 50 = .ok (.iastore, 1) := by decide +kernel
theorem dX12_goBodies_51 : decode cX12_goBodies 51 = .ok (.iconst 0, 1) := by decide +kernel
theorem dX12_goBodies_52 : decode cX12_goBodies 52 = .ok (.istore 4, 2) := by decide +kernel
theorem dX12_goBodies_54 : decode cX12_goBodies 54 = .ok (.iload 4, 2) := by decide +kernel
theorem dX12_goBodies_56 : decode cX12_goBodies 56 = .ok (.iconst 4, 1) := by decide +kernel
theorem dX12_goBodies_57 : decode cX12_goBodies 57 = .ok (.if_icmp .ge 46, 3) := by decide +kernel
theorem dX12_goBodies_60 : decode cX12_goBodies 60 = .ok (.aload_n 0, 1) := by decide +kernel
theorem dX12_goBodies_61 : decode cX12_goBodies 61 = .ok (.getfield 94, 3) := by decide +kernel
theorem dX12_goBodies_64 : decode cX12_goBodies 64 = .ok (.iload 4, 2) := by decide +kernel
theorem dX12_goBodies_66 : decode cX12_goBodies 66 = .ok (.aload_n 0, 1) := by decide +kernel
theorem dX12_goBodies_67 : decode cX12_goBodies 67 = .ok (.getfield 91, 3) := by decide +kernel
theorem dX12_goBodies_70 : decode cX12_goBodies 70 = .ok (.iload_n 1, 1) := by decide +kernel
theorem dX12_goBodies_71 : decode cX12_goBodies 71 = .ok (.iconst 3, 1) := by decide +kernel
theorem dX12_goBodies_72 : decode cX12_goBodies 72 = .ok (.iadd, 1) := by decide +kernel
theorem dX12_goBodies_73 : decode cX12_goBodies 73 = .ok (.iload 4, 2) := by decide +kernel
theorem dX12_goBodies_75 : decode cX12_goBodies 75 = .ok (.iadd, 1) := by decide +kernel
theorem dX12_goBodies_76 : decode cX12_goBodies 76 = .ok (.iaload, 1) := by decide +kernel
theorem dX12_goBodies_77 : decode cX12_goBodies 77 = .ok (.iastore, 1) := by decide +kernel
theorem dX12_goBodies_78 : decode cX12_goBodies 78 = .ok (.aload_n 0, 1) := by decide +kernel
theorem dX12_goBodies_79 : decode cX12_goBodies 79 = .ok (.getfield 97, 3) := by decide +kernel
theorem dX12_goBodies_82 : decode cX12_goBodies 82 = .ok (.iload 4, 2) := by decide +kernel
theorem dX12_goBodies_84 : decode cX12_goBodies 84 = .ok (.aload_n 0, 1) := by decide +kernel
theorem dX12_goBodies_85 : decode cX12_goBodies 85 = .ok (.getfield 91, 3) := by decide +kernel
theorem dX12_goBodies_88 : decode cX12_goBodies 88 = .ok (.iload_n 1, 1) := by decide +kernel
theorem dX12_goBodies_89 : decode cX12_goBodies 89 = .ok (.bipush 7, 2) := by decide +kernel
theorem dX12_goBodies_91 : decode cX12_goBodies 91 = .ok (.iadd, 1) := by decide +kernel
theorem dX12_goBodies_92 : decode cX12_goBodies 92 = .ok (.iload 4, 2) := by decide +kernel
theorem dX12_goBodies_94 : decode cX12_goBodies 94 = .ok (.iadd, 1) := by decide +kernel
theorem dX12_goBodies_95 : decode cX12_goBodies 95 = .ok (.iaload, 1) := by decide +kernel
theorem dX12_goBodies_96 : decode cX12_goBodies 96 = .ok (.iastore, 1) := by decide +kernel
theorem dX12_goBodies_97 : decode cX12_goBodies 97 = .ok (.iinc 4 1, 3) := by decide +kernel
theorem dX12_goBodies_100 : decode cX12_goBodies 100 = .ok (.goto (-46), 3) := by decide +kernel
theorem dX12_goBodies_103 : decode cX12_goBodies 103 = .ok (.bipush 6, 2) := by decide +kernel
theorem dX12_goBodies_105 : decode cX12_goBodies 105 = .ok (.iload_n 2, 1) := by decide +kernel
theorem dX12_goBodies_106 : decode cX12_goBodies 106 = .ok (.imul, 1) := by decide +kernel
theorem dX12_goBodies_107 : decode cX12_goBodies 107 = .ok (.iconst 3, 1) := by decide +kernel
theorem dX12_goBodies_108 : decode cX12_goBodies 108 = .ok (.iload_n 3, 1) := by decide +kernel
theorem dX12_goBodies_109 : decode cX12_goBodies 109 = .ok (.imul, 1) := by decide +kernel
theorem dX12_goBodies_110 : decode cX12_goBodies 110 = .ok (.iadd, 1) := by decide +kernel
theorem dX12_goBodies_111 : decode cX12_goBodies 111 = .ok (.istore 4, 2) := by decide +kernel
theorem dX12_goBodies_113 : decode cX12_goBodies 113 = .ok (.aload_n 0, 1) := by decide +kernel
theorem dX12_goBodies_114 : decode cX12_goBodies 114 = .ok (.aload_n 0, 1) := by decide +kernel
theorem dX12_goBodies_115 : decode cX12_goBodies 115 = .ok (.getfield 46, 3) := by decide +kernel
theorem dX12_goBodies_118 : decode cX12_goBodies 118 = .ok (.iload 4, 2) := by decide +kernel
theorem dX12_goBodies_120 : decode cX12_goBodies 120 = .ok (.iconst 1, 1) := by decide +kernel
theorem dX12_goBodies_121 : decode cX12_goBodies 121 = .ok (.iadd, 1) := by decide +kernel
theorem dX12_goBodies_122 : decode cX12_goBodies 122 = .ok (.iaload, 1) := by decide +kernel
theorem dX12_goBodies_123 : decode cX12_goBodies 123 = .ok (.invokevirtual 172, 3) := by decide +kernel
theorem dX12_goBodies_126 : decode cX12_goBodies 126 = .ok (.istore 5, 2) := by decide +kernel
theorem dX12_goBodies_128 : decode cX12_goBodies 128 = .ok (.aload_n 0, 1) := by decide +kernel
theorem dX12_goBodies_129 : decode cX12_goBodies 129 = .ok (.aload_n 0, 1) := by decide +kernel
theorem dX12_goBodies_130 : decode cX12_goBodies 130 = .ok (.getfield 46, 3) := by decide +kernel
theorem dX12_goBodies_133 : decode cX12_goBodies 133 = .ok (.iload 4, 2) := by decide +kernel
theorem dX12_goBodies_135 : decode cX12_goBodies 135 = .ok (.iconst 2, 1) := by decide +kernel
theorem dX12_goBodies_136 : decode cX12_goBodies 136 = .ok (.iadd, 1) := by decide +kernel
theorem dX12_goBodies_137 : decode cX12_goBodies 137 = .ok (.iaload, 1) := by decide +kernel
theorem dX12_goBodies_138 : decode cX12_goBodies 138 = .ok (.invokevirtual 172, 3) := by decide +kernel
theorem dX12_goBodies_141 : decode cX12_goBodies 141 = .ok (.istore 6, 2) := by decide +kernel
theorem dX12_goBodies_143 : decode cX12_goBodies 143 = .ok (.aload_n 0, 1) := by decide +kernel
theorem dX12_goBodies_144 : decode cX12_goBodies 144 = .ok (.getfield 46, 3) := by decide +kernel
theorem dX12_goBodies_147 : decode cX12_goBodies 147 = .ok (.iload 4, 2) := by decide +kernel
theorem dX12_goBodies_149 : decode cX12_goBodies 149 = .ok (.iaload, 1) := by decide +kernel
theorem dX12_goBodies_150 : decode cX12_goBodies 150 = .ok (.iconst (-1), 1) := by decide +kernel
theorem dX12_goBodies_151 : decode cX12_goBodies 151 = .ok (.if_icmp .ne 14, 3) := by decide +kernel
theorem dX12_goBodies_154 : decode cX12_goBodies 154 = .ok (.aload_n 0, 1) := by decide +kernel
theorem dX12_goBodies_155 : decode cX12_goBodies 155 = .ok (.iload 5, 2) := by decide +kernel
theorem dX12_goBodies_157 : decode cX12_goBodies 157 = .ok (.iload 6, 2) := by decide +kernel
theorem dX12_goBodies_159 : decode cX12_goBodies 159 = .ok (.invokevirtual 197, 3) := by decide +kernel
theorem dX12_goBodies_162 : decode cX12_goBodies 162 = .ok (.goto 36, 3) := by decide +kernel
theorem dX12_goBodies_165 : decode cX12_goBodies 165 = .ok (.aload_n 0, 1) := by decide +kernel
theorem dX12_goBodies_166 : decode cX12_goBodies 166 = .ok (.aload_n 0, 1) := by decide +kernel
theorem dX12_goBodies_167 : decode cX12_goBodies 167 = .ok (.getfield 46, 3) := by decide +kernel
theorem dX12_goBodies_170 : decode cX12_goBodies 170 = .ok (.iload 4, 2) := by decide +kernel
theorem dX12_goBodies_172 : decode cX12_goBodies 172 = .ok (.iaload, 1) := by decide +kernel
theorem dX12_goBodies_173 : decode cX12_goBodies 173 = .ok (.iload 5, 2) := by decide +kernel
theorem dX12_goBodies_175 : decode cX12_goBodies 175 = .ok (.iload 6, 2) := by decide +kernel
theorem dX12_goBodies_177 : decode cX12_goBodies 177 = .ok (.aload_n 0, 1) := by decide +kernel
theorem dX12_goBodies_178 : decode cX12_goBodies 178 = .ok (.getfield 91, 3) := by decide +kernel
theorem dX12_goBodies_181 : decode cX12_goBodies 181 = .ok (.iload_n 1, 1) := by decide +kernel
theorem dX12_goBodies_182 : decode cX12_goBodies 182 = .ok (.bipush 11, 2) := by decide +kernel
theorem dX12_goBodies_184 : decode cX12_goBodies 184 = .ok (.iadd, 1) := by decide +kernel
theorem dX12_goBodies_185 : decode cX12_goBodies 185 = .ok (.iaload, 1) := by decide +kernel
theorem dX12_goBodies_186 : decode cX12_goBodies 186 = .ok (.iconst 1, 1) := by decide +kernel
theorem dX12_goBodies_187 : decode cX12_goBodies 187 = .ok (.if_icmp .ne 7, 3) := by decide +kernel
theorem dX12_goBodies_190 : decode cX12_goBodies 190 = .ok (.iconst 1, 1) := by decide +kernel
theorem dX12_goBodies_191 : decode cX12_goBodies 191 = .ok (.goto 4, 3) := by decide +kernel
theorem dX12_goBodies_194 : decode cX12_goBodies 194 = .ok (.iconst 0, 1) := by decide +kernel
theorem dX12_goBodies_195 : decode cX12_goBodies 195 = .ok (.invokevirtual 201, 3) := by decide +kernel
theorem dX12_goBodies_198 : decode cX12_goBodies 198 = .ok (.return_, 1) := by decide +kernel
theorem dX12_goAgain_0 : decode cX12_goAgain 0 = .ok (.aload_n 0, 1) := by decide +kernel
theorem dX12_goAgain_1 : decode cX12_goAgain 1 = .ok (.getfield 91, 3) := by decide +kernel
theorem dX12_goAgain_4 : decode cX12_goAgain 4 = .ok (.iload_n 1, 1) := by decide +kernel
theorem dX12_goAgain_5 : decode cX12_goAgain 5 = .ok (.iconst 1, 1) := by decide +kernel
theorem dX12_goAgain_6 : decode cX12_goAgain 6 = .ok (.iadd, 1) := by decide +kernel
theorem dX12_goAgain_7 : decode cX12_goAgain 7 = .ok (.iaload, 1) := by decide +kernel
theorem dX12_goAgain_8 : decode cX12_goAgain 8 = .ok (.istore_n 2, 1) := by decide +kernel
theorem dX12_goAgain_9 : decode cX12_goAgain 9 = .ok (.iload_n 2, 1) := by decide +kernel
theorem dX12_goAgain_10 : decode cX12_goAgain 10 = .ok (.bipush 100, 2) := by decide +kernel
theorem dX12_goAgain_12 : decode cX12_goAgain 12 = .ok (.if_icmp .ge 32, 3) := by decide +kernel
theorem dX12_goAgain_15 : decode cX12_goAgain 15 = .ok (.aload_n 0, 1) := by decide +kernel
theorem dX12_goAgain_16 : decode cX12_goAgain 16 = .ok (.getfield 91, 3) := by decide +kernel
theorem dX12_goAgain_19 : decode cX12_goAgain 19 = .ok (.iload_n 1, 1) := by decide +kernel
theorem dX12_goAgain_20 : decode cX12_goAgain 20 = .ok (.iconst 2, 1) := by decide +kernel
theorem dX12_goAgain_21 : decode cX12_goAgain 21 = .ok (.iadd, 1) := by decide +kernel
theorem dX12_goAgain_22 : decode cX12_goAgain 22 = .ok (.iload_n 2, 1) := by decide +kernel
theorem dX12_goAgain_23 : decode cX12_goAgain 23 = .ok (.bipush 32, 2) := by decide +kernel
theorem dX12_goAgain_25 : decode cX12_goAgain 25 = .ok (.idiv, 1) := by decide +kernel
theorem dX12_goAgain_26 : decode cX12_goAgain 26 = .ok (.iadd, 1) := by decide +kernel
theorem dX12_goAgain_27 : decode cX12_goAgain 27 = .ok (.iaload, 1) := by decide +kernel
theorem dX12_goAgain_28 : decode cX12_goAgain 28 = .ok (.iload_n 2, 1) := by decide +kernel
theorem dX12_goAgain_29 : decode cX12_goAgain 29 = .ok (.bipush 32, 2) := by decide +kernel
theorem dX12_goAgain_31 : decode cX12_goAgain 31 = .ok (.irem, 1) := by decide +kernel
theorem dX12_goAgain_32 : decode cX12_goAgain 32 = .ok (.ishr, 1) := by decide +kernel
theorem dX12_goAgain_33 : decode cX12_goAgain 33 = .ok (.iconst 1, 1) := by decide +kernel
theorem dX12_goAgain_34 : decode cX12_goAgain 34 = .ok (.iand, 1) := by decide +kernel
theorem dX12_goAgain_35 : decode cX12_goAgain 35 = .ok (.ifCond .ne 9, 3) := by decide +kernel
theorem dX12_goAgain_38 : decode cX12_goAgain 38 = .ok (.iinc 2 1, 3) := by decide +kernel
theorem dX12_goAgain_41 : decode cX12_goAgain 41 = .ok (.goto (-32), 3) := by decide +kernel
theorem dX12_goAgain_44 : decode cX12_goAgain 44 = .ok (.iload_n 2, 1) := by decide +kernel
theorem dX12_goAgain_45 : decode cX12_goAgain 45 = .ok (.bipush 100, 2) := by decide +kernel
theorem dX12_goAgain_47 : decode cX12_goAgain 47 = .ok (.if_icmp .ne 14, 3) := by decide +kernel
theorem dX12_goAgain_50 : decode cX12_goAgain 50 = .ok (.aload_n 0, 1) := by decide +kernel
theorem dX12_goAgain_51 : decode cX12_goAgain 51 = .ok (.dup, 1) := by decide +kernel
theorem dX12_goAgain_52 : decode cX12_goAgain 52 = .ok (.getfield 156, 3) := by decide +kernel
theorem dX12_goAgain_55 : decode cX12_goAgain 55 = .ok (.iconst 1, 1) := by decide +kernel
theorem dX12_goAgain_56 : decode cX12_goAgain 56 = .ok (.isub, 1) := by decide +kernel
theorem dX12_goAgain_57 : decode cX12_goAgain 57 = .ok (.putfield 156, 3) := by decide +kernel
theorem dX12_goAgain_60 : decode cX12_goAgain 60 = .ok (.return_, 1) := by decide +kernel
theorem dX12_goAgain_61 : decode cX12_goAgain 61 = .ok (.aload_n 0, 1) := by decide +kernel
theorem dX12_goAgain_62 : decode cX12_goAgain 62 = .ok (.getfield 91, 3) := by decide +kernel
theorem dX12_goAgain_65 : decode cX12_goAgain 65 = .ok (.iload_n 1, 1) := by decide +kernel
theorem dX12_goAgain_66 : decode cX12_goAgain 66 = .ok (.iconst 1, 1) := by decide +kernel
theorem dX12_goAgain_67 : decode cX12_goAgain 67 = .ok (.iadd, 1) := by decide +kernel
theorem dX12_goAgain_68 : decode cX12_goAgain 68 = .ok (.iload_n 2, 1) := by decide +kernel
theorem dX12_goAgain_69 : decode cX12_goAgain 69 = .ok (.iconst 1, 1) := by decide +kernel
theorem dX12_goAgain_70 : decode cX12_goAgain 70 = .ok (.iadd, 1) := by decide +kernel
theorem dX12_goAgain_71 : decode cX12_goAgain 71 = .ok (.iastore, 1) := by decide +kernel
theorem dX12_goAgain_72 : decode cX12_goAgain 72 = .ok (.aload_n 0, 1) := by decide +kernel
theorem dX12_goAgain_73 : decode cX12_goAgain 73 = .ok (.getfield 7, 3) := by decide +kernel
theorem dX12_goAgain_76 : decode cX12_goAgain 76 = .ok (.sipush 422, 3) := by decide +kernel
theorem dX12_goAgain_79 : decode cX12_goAgain 79 = .ok (.iload_n 2, 1) := by decide +kernel
theorem dX12_goAgain_80 : decode cX12_goAgain 80 = .ok (.iadd, 1) := by decide +kernel
theorem dX12_goAgain_81 : decode cX12_goAgain 81 = .ok (.iaload, 1) := by decide +kernel
theorem dX12_goAgain_82 : decode cX12_goAgain 82 = .ok (.iconst 1, 1) := by decide +kernel
theorem dX12_goAgain_83 : decode cX12_goAgain 83 = .ok (.if_icmp .ne 8, 3) := by decide +kernel
theorem dX12_goAgain_86 : decode cX12_goAgain 86 = .ok (.aload_n 0, 1) := by decide +kernel
theorem dX12_goAgain_87 : decode cX12_goAgain 87 = .ok (.iload_n 2, 1) := by decide +kernel
theorem dX12_goAgain_88 : decode cX12_goAgain 88 = .ok (.invokevirtual 163, 3) := by decide +kernel
theorem dX12_goAgain_91 : decode cX12_goAgain 91 = .ok (.return_, 1) := by decide +kernel
theorem dX12_settle_0 : decode cX12_settle 0 = .ok (.aload_n 0, 1) := by decide +kernel
theorem dX12_settle_1 : decode cX12_settle 1 = .ok (.getfield 156, 3) := by decide +kernel
theorem dX12_settle_4 : decode cX12_settle 4 = .ok (.ifCond .le 63, 3) := by decide +kernel
theorem dX12_settle_7 : decode cX12_settle 7 = .ok (.aload_n 0, 1) := by decide +kernel
theorem dX12_settle_8 : decode cX12_settle 8 = .ok (.getfield 133, 3) := by decide +kernel
theorem dX12_settle_11 : decode cX12_settle 11 = .ok (.ifCond .ne 56, 3) := by decide +kernel
theorem dX12_settle_14 : decode cX12_settle 14 = .ok (.bipush 12, 2) := by decide +kernel
theorem dX12_settle_16 : decode cX12_settle 16 = .ok (.aload_n 0, 1) := by decide +kernel
theorem dX12_settle_17 : decode cX12_settle 17 = .ok (.getfield 156, 3) := by decide +kernel
theorem dX12_settle_20 : decode cX12_settle 20 = .ok (.iconst 1, 1) := by decide +kernel
theorem dX12_settle_21 : decode cX12_settle 21 = .ok (.isub, 1) := by decide +kernel
theorem dX12_settle_22 : decode cX12_settle 22 = .ok (.imul, 1) := by decide +kernel
theorem dX12_settle_23 : decode cX12_settle 23 = .ok (.istore_n 1, 1) := by decide +kernel
theorem dX12_settle_24 : decode cX12_settle 24 = .ok (.aload_n 0, 1) := by decide +kernel
theorem dX12_settle_25 : decode cX12_settle 25 = .ok (.getfield 91, 3) := by decide +kernel
theorem dX12_settle_28 : decode cX12_settle 28 = .ok (.iload_n 1, 1) := by decide +kernel
theorem dX12_settle_29 : decode cX12_settle 29 = .ok (.iaload, 1) := by decide +kernel
theorem dX12_settle_30 : decode cX12_settle 30 = .ok (.ifCond .ne 11, 3) := by decide +kernel
theorem dX12_settle_33 : decode cX12_settle 33 = .ok (.aload_n 0, 1) := by decide +kernel
theorem dX12_settle_34 : decode cX12_settle 34 = .ok (.iload_n 1, 1) := by decide +kernel
theorem dX12_settle_35 : decode cX12_settle 35 = .ok (.invokevirtual 205, 3) := by decide +kernel
theorem dX12_settle_38 : decode cX12_settle 38 = .ok (.goto 26, 3) := by decide +kernel
theorem dX12_settle_41 : decode cX12_settle 41 = .ok (.aload_n 0, 1) := by decide +kernel
theorem dX12_settle_42 : decode cX12_settle 42 = .ok (.getfield 91, 3) := by decide +kernel
theorem dX12_settle_45 : decode cX12_settle 45 = .ok (.iload_n 1, 1) := by decide +kernel
theorem dX12_settle_46 : decode cX12_settle 46 = .ok (.iaload, 1) := by decide +kernel
theorem dX12_settle_47 : decode cX12_settle 47 = .ok (.iconst 1, 1) := by decide +kernel
theorem dX12_settle_48 : decode cX12_settle 48 = .ok (.if_icmp .ne 11, 3) := by decide +kernel
theorem dX12_settle_51 : decode cX12_settle 51 = .ok (.aload_n 0, 1) := by decide +kernel
theorem dX12_settle_52 : decode cX12_settle 52 = .ok (.iload_n 1, 1) := by decide +kernel
theorem dX12_settle_53 : decode cX12_settle 53 = .ok (.invokevirtual 208, 3) := by decide +kernel
theorem dX12_settle_56 : decode cX12_settle 56 = .ok (.goto 8, 3) := by decide +kernel
theorem dX12_settle_59 : decode cX12_settle 59 = .ok (.aload_n 0, 1) := by decide +kernel
theorem dX12_settle_60 : decode cX12_settle 60 = .ok (.iload_n 1, 1) := by decide +kernel
theorem dX12_settle_61 : decode cX12_settle 61 = .ok (.invokevirtual 211, 3) := by decide +kernel
theorem dX12_settle_64 : decode cX12_settle 64 = .ok (.goto (-64), 3) := by decide +kernel
theorem dX12_settle_67 : decode cX12_settle 67 = .ok (.aload_n 0, 1) := by decide +kernel
theorem dX12_settle_68 : decode cX12_settle 68 = .ok (.iconst 0, 1) := by decide +kernel
theorem dX12_settle_69 : decode cX12_settle 69 = .ok (.putfield 156, 3) := by decide +kernel
theorem dX12_settle_72 : decode cX12_settle 72 = .ok (.return_, 1) := by decide +kernel
theorem dX12_makeNode_0 : decode cX12_makeNode 0 = .ok (.aload_n 0, 1) := by decide +kernel
theorem dX12_makeNode_1 : decode cX12_makeNode 1 = .ok (.getfield 130, 3) := by decide +kernel
theorem dX12_makeNode_4 : decode cX12_makeNode 4 = .ok (.bipush 60, 2) := by decide +kernel
theorem dX12_makeNode_6 : decode cX12_makeNode 6 = .ok (.if_icmp .ne 5, 3) := by decide +kernel
theorem dX12_makeNode_9 : decode cX12_makeNode 9 = .ok (.iconst (-1), 1) := by decide +kernel
theorem dX12_makeNode_10 : decode cX12_makeNode 10 = .ok (.ireturn, 1) := by decide +kernel
theorem dX12_makeNode_11 : decode cX12_makeNode 11 = .ok (.aload_n 0, 1) := by decide +kernel
theorem dX12_makeNode_12 : decode cX12_makeNode 12 = .ok (.getfield 16, 3) := by decide +kernel
theorem dX12_makeNode_15 : decode cX12_makeNode 15 = .ok (.aload_n 0, 1) := by decide +kernel
theorem dX12_makeNode_16 : decode cX12_makeNode 16 = .ok (.getfield 130, 3) := by decide +kernel
theorem dX12_makeNode_19 : decode cX12_makeNode 19 = .ok (.iload_n 1, 1) := by decide +kernel
theorem dX12_makeNode_20 : decode cX12_makeNode 20 = .ok (.iastore, 1) := by decide +kernel
theorem dX12_makeNode_21 : decode cX12_makeNode 21 = .ok (.aload_n 0, 1) := by decide +kernel
theorem dX12_makeNode_22 : decode cX12_makeNode 22 = .ok (.getfield 19, 3) := by decide +kernel
theorem dX12_makeNode_25 : decode cX12_makeNode 25 = .ok (.aload_n 0, 1) := by decide +kernel
theorem dX12_makeNode_26 : decode cX12_makeNode 26 = .ok (.getfield 130, 3) := by decide +kernel
theorem dX12_makeNode_29 : decode cX12_makeNode 29 = .ok (.iload_n 2, 1) := by decide +kernel
theorem dX12_makeNode_30 : decode cX12_makeNode 30 = .ok (.iastore, 1) := by decide +kernel
theorem dX12_makeNode_31 : decode cX12_makeNode 31 = .ok (.aload_n 0, 1) := by decide +kernel
theorem dX12_makeNode_32 : decode cX12_makeNode 32 = .ok (.getfield 22, 3) := by decide +kernel
theorem dX12_makeNode_35 : decode cX12_makeNode 35 = .ok (.aload_n 0, 1) := by decide +kernel
theorem dX12_makeNode_36 : decode cX12_makeNode 36 = .ok (.getfield 130, 3) := by decide +kernel
theorem dX12_makeNode_39 : decode cX12_makeNode 39 = .ok (.iload_n 3, 1) := by decide +kernel
theorem dX12_makeNode_40 : decode cX12_makeNode 40 = .ok (.iastore, 1) := by decide +kernel
theorem dX12_makeNode_41 : decode cX12_makeNode 41 = .ok (.aload_n 0, 1) := by decide +kernel
theorem dX12_makeNode_42 : decode cX12_makeNode 42 = .ok (.getfield 25, 3) := by decide +kernel
theorem dX12_makeNode_45 : decode cX12_makeNode 45 = .ok (.aload_n 0, 1) := by decide +kernel
theorem dX12_makeNode_46 : decode cX12_makeNode 46 = .ok (.getfield 130, 3) := by decide +kernel
theorem dX12_makeNode_49 : decode cX12_makeNode 49 = .ok (.iload 4, 2) := by decide +kernel
theorem dX12_makeNode_51 : decode cX12_makeNode 51 = .ok (.iastore, 1) := by decide +kernel
theorem dX12_makeNode_52 : decode cX12_makeNode 52 = .ok (.aload_n 0, 1) := by decide +kernel
theorem dX12_makeNode_53 : decode cX12_makeNode 53 = .ok (.getfield 28, 3) := by decide +kernel
theorem dX12_makeNode_56 : decode cX12_makeNode 56 = .ok (.aload_n 0, 1) := by decide +kernel
theorem dX12_makeNode_57 : decode cX12_makeNode 57 = .ok (.getfield 130, 3) := by decide +kernel
theorem dX12_makeNode_60 : decode cX12_makeNode 60 = .ok (.iload 5, 2) := by decide +kernel
theorem dX12_makeNode_62 : decode cX12_makeNode 62 = .ok (.iastore, 1) := by decide +kernel
theorem dX12_makeNode_63 : decode cX12_makeNode 63 = .ok (.aload_n 0, 1) := by decide +kernel
theorem dX12_makeNode_64 : decode cX12_makeNode 64 = .ok (.dup, 1) := by decide +kernel
theorem dX12_makeNode_65 : decode cX12_makeNode 65 = .ok (.getfield 130, 3) := by decide +kernel
theorem dX12_makeNode_68 : decode cX12_makeNode 68 = .ok (.iconst 1, 1) := by decide +kernel
theorem dX12_makeNode_69 : decode cX12_makeNode 69 = .ok (.iadd, 1) := by decide +kernel
theorem dX12_makeNode_70 : decode cX12_makeNode 70 = .ok (.putfield 130, 3) := by decide +kernel
theorem dX12_makeNode_73 : decode cX12_makeNode 73 = .ok (.aload_n 0, 1) := by decide +kernel
theorem dX12_makeNode_74 : decode cX12_makeNode 74 = .ok (.getfield 130, 3) := by decide +kernel
theorem dX12_makeNode_77 : decode cX12_makeNode 77 = .ok (.iconst 1, 1) := by decide +kernel
theorem dX12_makeNode_78 : decode cX12_makeNode 78 = .ok (.isub, 1) := by decide +kernel
theorem dX12_makeNode_79 : decode cX12_makeNode 79 = .ok (.ireturn, 1) := by decide +kernel
theorem dX12_toldNode_0 : decode cX12_toldNode 0 = .ok (.iload_n 1, 1) := by decide +kernel
theorem dX12_toldNode_1 : decode cX12_toldNode 1 = .ok (.iconst (-1), 1) := by decide +kernel
theorem dX12_toldNode_2 : decode cX12_toldNode 2 = .ok (.if_icmp .ne 11, 3) := by decide +kernel
theorem dX12_toldNode_5 : decode cX12_toldNode 5 = .ok (.aload_n 0, 1) := by decide +kernel
theorem dX12_toldNode_6 : decode cX12_toldNode 6 = .ok (.iload_n 2, 1) := by decide +kernel
theorem dX12_toldNode_7 : decode cX12_toldNode 7 = .ok (.invokevirtual 137, 3) := by decide +kernel
theorem dX12_toldNode_10 : decode cX12_toldNode 10 = .ok (.goto 4, 3) := by decide +kernel
theorem dX12_toldNode_13 : decode cX12_toldNode 13 = .ok (.iload_n 1, 1) := by decide +kernel
theorem dX12_toldNode_14 : decode cX12_toldNode 14 = .ok (.ireturn, 1) := by decide +kernel
theorem dX12_equate_0 : decode cX12_equate 0 = .ok (.aload_n 0, 1) := by decide +kernel
theorem dX12_equate_1 : decode cX12_equate 1 = .ok (.iconst 0, 1) := by decide +kernel
theorem dX12_equate_2 : decode cX12_equate 2 = .ok (.putfield 118, 3) := by decide +kernel
theorem dX12_equate_5 : decode cX12_equate 5 = .ok (.iload_n 1, 1) := by decide +kernel
theorem dX12_equate_6 : decode cX12_equate 6 = .ok (.invokestatic 214, 3) := by decide +kernel
theorem dX12_equate_9 : decode cX12_equate 9 = .ok (.ifCond .eq 10, 3) := by decide +kernel
theorem dX12_equate_12 : decode cX12_equate 12 = .ok (.iload_n 2, 1) := by decide +kernel
theorem dX12_equate_13 : decode cX12_equate 13 = .ok (.invokestatic 214, 3) := by decide +kernel
theorem dX12_equate_16 : decode cX12_equate 16 = .ok (.ifCond .ne 9, 3) := by decide +kernel
theorem dX12_equate_19 : decode cX12_equate 19 = .ok (.aload_n 0, 1) := by decide +kernel
theorem dX12_equate_20 : decode cX12_equate 20 = .ok (.iconst 1, 1) := by decide +kernel
theorem dX12_equate_21 : decode cX12_equate 21 = .ok (.invokevirtual 137, 3) := by decide +kernel
theorem dX12_equate_24 : decode cX12_equate 24 = .ok (.ireturn, 1) := by decide +kernel
theorem dX12_equate_25 : decode cX12_equate 25 = .ok (.aload_n 0, 1) := by decide +kernel
theorem dX12_equate_26 : decode cX12_equate 26 = .ok (.aload_n 0, 1) := by decide +kernel
theorem dX12_equate_27 : decode cX12_equate 27 = .ok (.iconst 0, 1) := by decide +kernel
theorem dX12_equate_28 : decode cX12_equate 28 = .ok (.iload_n 1, 1) := by decide +kernel
theorem dX12_equate_29 : decode cX12_equate 29 = .ok (.iload_n 2, 1) := by decide +kernel
theorem dX12_equate_30 : decode cX12_equate 30 = .ok (.iconst 0, 1) := by decide +kernel
theorem dX12_equate_31 : decode cX12_equate 31 = .ok (.iconst 0, 1) := by decide +kernel
theorem dX12_equate_32 : decode cX12_equate 32 = .ok (.invokevirtual 217, 3) := by decide +kernel
theorem dX12_equate_35 : decode cX12_equate 35 = .ok (.iconst 2, 1) := by decide +kernel
theorem dX12_equate_36 : decode cX12_equate 36 = .ok (.invokevirtual 221, 3) := by decide +kernel
theorem dX12_equate_39 : decode cX12_equate 39 = .ok (.ireturn, 1) := by decide +kernel
theorem dX12_token_0 : decode cX12_token 0 = .ok (.aload_n 0, 1) := by decide +kernel
theorem dX12_token_1 : decode cX12_token 1 = .ok (.iconst 0, 1) := by decide +kernel
theorem dX12_token_2 : decode cX12_token 2 = .ok (.putfield 118, 3) := by decide +kernel
theorem dX12_token_5 : decode cX12_token 5 = .ok (.iload_n 1, 1) := by decide +kernel
theorem dX12_token_6 : decode cX12_token 6 = .ok (.iconst 0, 1) := by decide +kernel
theorem dX12_token_7 : decode cX12_token 7 = .ok (.iconst 5, 1) := by decide +kernel
theorem dX12_token_8 : decode cX12_token 8 = .ok (.invokestatic 122, 3) := by decide +kernel
theorem dX12_token_11 : decode cX12_token 11 = .ok (.ifCond .eq 17, 3) := by decide +kernel
theorem dX12_token_14 : decode cX12_token 14 = .ok (.iload_n 2, 1) := by decide +kernel
theorem dX12_token_15 : decode cX12_token 15 = .ok (.invokestatic 214, 3) := by decide +kernel
theorem dX12_token_18 : decode cX12_token 18 = .ok (.ifCond .eq 10, 3) := by decide +kernel
theorem dX12_token_21 : decode cX12_token 21 = .ok (.iload_n 3, 1) := by decide +kernel
theorem dX12_token_22 : decode cX12_token 22 = .ok (.invokestatic 214, 3) := by decide +kernel
theorem dX12_token_25 : decode cX12_token 25 = .ok (.ifCond .ne 9, 3) := by decide +kernel
theorem dX12_token_28 : decode cX12_token 28 = .ok (.aload_n 0, 1) := by decide +kernel
theorem dX12_token_29 : decode cX12_token 29 = .ok (.iconst 1, 1) := by decide +kernel
theorem dX12_token_30 : decode cX12_token 30 = .ok (.invokevirtual 137, 3) := by decide +kernel
theorem dX12_token_33 : decode cX12_token 33 = .ok (.ireturn, 1) := by decide +kernel
theorem dX12_token_34 : decode cX12_token 34 = .ok (.aload_n 0, 1) := by decide +kernel
theorem dX12_token_35 : decode cX12_token 35 = .ok (.aload_n 0, 1) := by decide +kernel
theorem dX12_token_36 : decode cX12_token 36 = .ok (.iconst 1, 1) := by decide +kernel
theorem dX12_token_37 : decode cX12_token 37 = .ok (.iload_n 1, 1) := by decide +kernel
theorem dX12_token_38 : decode cX12_token 38 = .ok (.iload_n 2, 1) := by decide +kernel
theorem dX12_token_39 : decode cX12_token 39 = .ok (.iload_n 3, 1) := by decide +kernel
theorem dX12_token_40 : decode cX12_token 40 = .ok (.iload 4, 2) := by decide +kernel
theorem dX12_token_42 : decode cX12_token 42 = .ok (.ifCond .eq 7, 3) := by decide +kernel
theorem dX12_token_45 : decode cX12_token 45 = .ok (.iconst 1, 1) := by decide +kernel
theorem dX12_token_46 : decode cX12_token 46 = .ok (.goto 4, 3) := by decide +kernel
theorem dX12_token_49 : decode cX12_token 49 = .ok (.iconst 0, 1) := by decide +kernel
theorem dX12_token_50 : decode cX12_token 50 = .ok (.invokevirtual 217, 3) := by decide +kernel
theorem dX12_token_53 : decode cX12_token 53 = .ok (.iconst 2, 1) := by decide +kernel
theorem dX12_token_54 : decode cX12_token 54 = .ok (.invokevirtual 221, 3) := by decide +kernel
theorem dX12_token_57 : decode cX12_token 57 = .ok (.ireturn, 1) := by decide +kernel
theorem dX12_both_0 : decode cX12_both 0 = .ok (.aload_n 0, 1) := by decide +kernel
theorem dX12_both_1 : decode cX12_both 1 = .ok (.iconst 0, 1) := by decide +kernel
theorem dX12_both_2 : decode cX12_both 2 = .ok (.putfield 118, 3) := by decide +kernel
theorem dX12_both_5 : decode cX12_both 5 = .ok (.aload_n 0, 1) := by decide +kernel
theorem dX12_both_6 : decode cX12_both 6 = .ok (.iload_n 1, 1) := by decide +kernel
theorem dX12_both_7 : decode cX12_both 7 = .ok (.invokevirtual 225, 3) := by decide +kernel
theorem dX12_both_10 : decode cX12_both 10 = .ok (.ifCond .eq 11, 3) := by decide +kernel
theorem dX12_both_13 : decode cX12_both 13 = .ok (.aload_n 0, 1) := by decide +kernel
theorem dX12_both_14 : decode cX12_both 14 = .ok (.iload_n 2, 1) := by decide +kernel
theorem dX12_both_15 : decode cX12_both 15 = .ok (.invokevirtual 225, 3) := by decide +kernel
theorem dX12_both_18 : decode cX12_both 18 = .ok (.ifCond .ne 9, 3) := by decide +kernel
theorem dX12_both_21 : decode cX12_both 21 = .ok (.aload_n 0, 1) := by decide +kernel
theorem dX12_both_22 : decode cX12_both 22 = .ok (.iconst 1, 1) := by decide +kernel
theorem dX12_both_23 : decode cX12_both 23 = .ok (.invokevirtual 137, 3) := by decide +kernel
theorem dX12_both_26 : decode cX12_both 26 = .ok (.ireturn, 1) := by decide +kernel
theorem dX12_both_27 : decode cX12_both 27 = .ok (.aload_n 0, 1) := by decide +kernel
theorem dX12_both_28 : decode cX12_both 28 = .ok (.aload_n 0, 1) := by decide +kernel
theorem dX12_both_29 : decode cX12_both 29 = .ok (.iconst 2, 1) := by decide +kernel
theorem dX12_both_30 : decode cX12_both 30 = .ok (.iload_n 1, 1) := by decide +kernel
theorem dX12_both_31 : decode cX12_both 31 = .ok (.iload_n 2, 1) := by decide +kernel
theorem dX12_both_32 : decode cX12_both 32 = .ok (.iconst 0, 1) := by decide +kernel
theorem dX12_both_33 : decode cX12_both 33 = .ok (.iconst 0, 1) := by decide +kernel
theorem dX12_both_34 : decode cX12_both 34 = .ok (.invokevirtual 217, 3) := by decide +kernel
theorem dX12_both_37 : decode cX12_both 37 = .ok (.iconst 2, 1) := by decide +kernel
theorem dX12_both_38 : decode cX12_both 38 = .ok (.invokevirtual 221, 3) := by decide +kernel
theorem dX12_both_41 : decode cX12_both 41 = .ok (.ireturn, 1) := by decide +kernel
theorem dX12_areTold_0 : decode cX12_areTold 0 = .ok (.iload_n 0, 1) := by decide +kernel
theorem dX12_areTold_1 : decode cX12_areTold 1 = .ok (.invokestatic 228, 3) := by decide +kernel
theorem dX12_areTold_4 : decode cX12_areTold 4 = .ok (.ifCond .eq 26, 3) := by decide +kernel
theorem dX12_areTold_7 : decode cX12_areTold 7 = .ok (.iload_n 1, 1) := by decide +kernel
theorem dX12_areTold_8 : decode cX12_areTold 8 = .ok (.invokestatic 214, 3) := by decide +kernel
theorem dX12_areTold_11 : decode cX12_areTold 11 = .ok (.ifCond .eq 19, 3) := by decide +kernel
theorem dX12_areTold_14 : decode cX12_areTold 14 = .ok (.iload_n 0, 1) := by decide +kernel
theorem dX12_areTold_15 : decode cX12_areTold 15 = .ok (.iconst 3, 1) := by decide +kernel
theorem dX12_areTold_16 : decode cX12_areTold 16 = .ok (.if_icmp .eq 10, 3) := by decide +kernel
theorem dX12_areTold_19 : decode cX12_areTold 19 = .ok (.iload_n 2, 1) := by decide +kernel
theorem dX12_areTold_20 : decode cX12_areTold 20 = .ok (.invokestatic 214, 3) := by decide +kernel
theorem dX12_areTold_23 : decode cX12_areTold 23 = .ok (.ifCond .eq 7, 3) := by decide +kernel
theorem dX12_areTold_26 : decode cX12_areTold 26 = .ok (.iconst 1, 1) := by decide +kernel
theorem dX12_areTold_27 : decode cX12_areTold 27 = .ok (.goto 4, 3) := by decide +kernel
theorem dX12_areTold_30 : decode cX12_areTold 30 = .ok (.iconst 0, 1) := by decide +kernel
theorem dX12_areTold_31 : decode cX12_areTold 31 = .ok (.ireturn, 1) := by decide +kernel
theorem dX12_when_0 : decode cX12_when 0 = .ok (.aload_n 0, 1) := by decide +kernel
theorem dX12_when_1 : decode cX12_when 1 = .ok (.iconst 0, 1) := by decide +kernel
theorem dX12_when_2 : decode cX12_when 2 = .ok (.putfield 118, 3) := by decide +kernel
theorem dX12_when_5 : decode cX12_when 5 = .ok (.aload_n 0, 1) := by decide +kernel
theorem dX12_when_6 : decode cX12_when 6 = .ok (.iload 4, 2) := by decide +kernel
theorem dX12_when_8 : decode cX12_when 8 = .ok (.invokevirtual 225, 3) := by decide +kernel
theorem dX12_when_11 : decode cX12_when 11 = .ok (.ifCond .ne 9, 3) := by decide +kernel
theorem dX12_when_14 : decode cX12_when 14 = .ok (.aload_n 0, 1) := by decide +kernel
theorem dX12_when_15 : decode cX12_when 15 = .ok (.iconst 1, 1) := by decide +kernel
theorem dX12_when_16 : decode cX12_when 16 = .ok (.invokevirtual 137, 3) := by decide +kernel
theorem dX12_when_19 : decode cX12_when 19 = .ok (.ireturn, 1) := by decide +kernel
theorem dX12_when_20 : decode cX12_when 20 = .ok (.iload_n 1, 1) := by decide +kernel
theorem dX12_when_21 : decode cX12_when 21 = .ok (.iload_n 2, 1) := by decide +kernel
theorem dX12_when_22 : decode cX12_when 22 = .ok (.iload_n 3, 1) := by decide +kernel
theorem dX12_when_23 : decode cX12_when 23 = .ok (.invokestatic 231, 3) := by decide +kernel
theorem dX12_when_26 : decode cX12_when 26 = .ok (.ifCond .ne 9, 3) := by decide +kernel
theorem dX12_when_29 : decode cX12_when 29 = .ok (.aload_n 0, 1) := by decide +kernel
theorem dX12_when_30 : decode cX12_when 30 = .ok (.iconst 2, 1) := by decide +kernel
theorem dX12_when_31 : decode cX12_when 31 = .ok (.invokevirtual 137, 3) := by decide +kernel
theorem dX12_when_34 : decode cX12_when 34 = .ok (.ireturn, 1) := by decide +kernel
theorem dX12_when_35 : decode cX12_when 35 = .ok (.aload_n 0, 1) := by decide +kernel
theorem dX12_when_36 : decode cX12_when 36 = .ok (.aload_n 0, 1) := by decide +kernel
theorem dX12_when_37 : decode cX12_when 37 = .ok (.iconst 3, 1) := by decide +kernel
theorem dX12_when_38 : decode cX12_when 38 = .ok (.iload_n 1, 1) := by decide +kernel
theorem dX12_when_39 : decode cX12_when 39 = .ok (.iload_n 2, 1) := by decide +kernel
theorem dX12_when_40 : decode cX12_when 40 = .ok (.iload_n 3, 1) := by decide +kernel
theorem dX12_when_41 : decode cX12_when 41 = .ok (.iload 4, 2) := by decide +kernel
theorem dX12_when_43 : decode cX12_when 43 = .ok (.invokevirtual 217, 3) := by decide +kernel
theorem dX12_when_46 : decode cX12_when 46 = .ok (.iconst 3, 1) := by decide +kernel
theorem dX12_when_47 : decode cX12_when 47 = .ok (.invokevirtual 221, 3) := by decide +kernel
theorem dX12_when_50 : decode cX12_when 50 = .ok (.ireturn, 1) := by decide +kernel
theorem dX12_either_0 : decode cX12_either 0 = .ok (.aload_n 0, 1) := by decide +kernel
theorem dX12_either_1 : decode cX12_either 1 = .ok (.iconst 0, 1) := by decide +kernel
theorem dX12_either_2 : decode cX12_either 2 = .ok (.putfield 118, 3) := by decide +kernel
theorem dX12_either_5 : decode cX12_either 5 = .ok (.aload_n 0, 1) := by decide +kernel
theorem dX12_either_6 : decode cX12_either 6 = .ok (.iload_n 1, 1) := by decide +kernel
theorem dX12_either_7 : decode cX12_either 7 = .ok (.invokevirtual 225, 3) := by decide +kernel
theorem dX12_either_10 : decode cX12_either 10 = .ok (.ifCond .eq 11, 3) := by decide +kernel
theorem dX12_either_13 : decode cX12_either 13 = .ok (.aload_n 0, 1) := by decide +kernel
theorem dX12_either_14 : decode cX12_either 14 = .ok (.iload_n 3, 1) := by decide +kernel
theorem dX12_either_15 : decode cX12_either 15 = .ok (.invokevirtual 225, 3) := by decide +kernel
theorem dX12_either_18 : decode cX12_either 18 = .ok (.ifCond .ne 9, 3) := by decide +kernel
theorem dX12_either_21 : decode cX12_either 21 = .ok (.aload_n 0, 1) := by decide +kernel
theorem dX12_either_22 : decode cX12_either 22 = .ok (.iconst 1, 1) := by decide +kernel
theorem dX12_either_23 : decode cX12_either 23 = .ok (.invokevirtual 137, 3) := by decide +kernel
theorem dX12_either_26 : decode cX12_either 26 = .ok (.ireturn, 1) := by decide +kernel
theorem dX12_either_27 : decode cX12_either 27 = .ok (.aload_n 0, 1) := by decide +kernel
theorem dX12_either_28 : decode cX12_either 28 = .ok (.getfield 16, 3) := by decide +kernel
theorem dX12_either_31 : decode cX12_either 31 = .ok (.iload_n 1, 1) := by decide +kernel
theorem dX12_either_32 : decode cX12_either 32 = .ok (.iaload, 1) := by decide +kernel
theorem dX12_either_33 : decode cX12_either 33 = .ok (.iconst 3, 1) := by decide +kernel
theorem dX12_either_34 : decode cX12_either 34 = .ok (.if_icmp .ne 34, 3) := by decide +kernel
theorem dX12_either_37 : decode cX12_either 37 = .ok (.aload_n 0, 1) := by decide +kernel
theorem dX12_either_38 : decode cX12_either 38 = .ok (.getfield 16, 3) := by decide +kernel
theorem dX12_either_41 : decode cX12_either 41 = .ok (.iload_n 3, 1) := by decide +kernel
theorem dX12_either_42 : decode cX12_either 42 = .ok (.iaload, 1) := by decide +kernel
theorem dX12_either_43 : decode cX12_either 43 = .ok (.iconst 3, 1) := by decide +kernel
theorem dX12_either_44 : decode cX12_either 44 = .ok (.if_icmp .ne 24, 3) := by decide +kernel
theorem dX12_either_47 : decode cX12_either 47 = .ok (.iload_n 2, 1) := by decide +kernel
theorem dX12_either_48 : decode cX12_either 48 = .ok (.iconst 0, 1) := by decide +kernel
theorem dX12_either_49 : decode cX12_either 49 = .ok (.bipush 9, 2) := by decide +kernel
theorem dX12_either_51 : decode cX12_either 51 = .ok (.invokestatic 122, 3) := by decide +kernel
theorem dX12_either_54 : decode cX12_either 54 = .ok (.ifCond .eq 14, 3) := by decide +kernel
theorem dX12_either_57 : decode cX12_either 57 = .ok (.iload 4, 2) := by decide +kernel
theorem dX12_either_59 : decode cX12_either 59 = .ok (.iconst 0, 1) := by decide +kernel
theorem dX12_either_60 : decode cX12_either 60 = .ok (.bipush 9, 2) := by decide +kernel
theorem dX12_either_62 : decode cX12_either 62 = .ok (.invokestatic 122, 3) := by decide +kernel
theorem dX12_either_65 : decode cX12_either 65 = .ok (.ifCond .ne 9, 3) := by decide +kernel
theorem dX12_either_68 : decode cX12_either 68 = .ok (.aload_n 0, 1) := by decide +kernel
theorem dX12_either_69 : decode cX12_either 69 = .ok (.iconst 2, 1) := by decide +kernel
theorem dX12_either_70 : decode cX12_either 70 = .ok (.invokevirtual 137, 3) := by decide +kernel
theorem dX12_either_73 : decode cX12_either 73 = .ok (.ireturn, 1) := by decide +kernel
theorem dX12_either_74 : decode cX12_either 74 = .ok (.aload_n 0, 1) := by decide +kernel
theorem dX12_either_75 : decode cX12_either 75 = .ok (.aload_n 0, 1) := by decide +kernel
theorem dX12_either_76 : decode cX12_either 76 = .ok (.iconst 4, 1) := by decide +kernel
theorem dX12_either_77 : decode cX12_either 77 = .ok (.iload_n 1, 1) := by decide +kernel
theorem dX12_either_78 : decode cX12_either 78 = .ok (.iload_n 2, 1) := by decide +kernel
theorem dX12_either_79 : decode cX12_either 79 = .ok (.iload_n 3, 1) := by decide +kernel
theorem dX12_either_80 : decode cX12_either 80 = .ok (.iload 4, 2) := by decide +kernel
theorem dX12_either_82 : decode cX12_either 82 = .ok (.invokevirtual 217, 3) := by decide +kernel
theorem dX12_either_85 : decode cX12_either 85 = .ok (.iconst 3, 1) := by decide +kernel
theorem dX12_either_86 : decode cX12_either 86 = .ok (.invokevirtual 221, 3) := by decide +kernel
theorem dX12_either_89 : decode cX12_either 89 = .ok (.ireturn, 1) := by decide +kernel
theorem dX12_hide_0 : decode cX12_hide 0 = .ok (.aload_n 0, 1) := by decide +kernel
theorem dX12_hide_1 : decode cX12_hide 1 = .ok (.iconst 0, 1) := by decide +kernel
theorem dX12_hide_2 : decode cX12_hide 2 = .ok (.putfield 118, 3) := by decide +kernel
theorem dX12_hide_5 : decode cX12_hide 5 = .ok (.aload_n 0, 1) := by decide +kernel
theorem dX12_hide_6 : decode cX12_hide 6 = .ok (.iload_n 2, 1) := by decide +kernel
theorem dX12_hide_7 : decode cX12_hide 7 = .ok (.invokevirtual 225, 3) := by decide +kernel
theorem dX12_hide_10 : decode cX12_hide 10 = .ok (.ifCond .ne 9, 3) := by decide +kernel
theorem dX12_hide_13 : decode cX12_hide 13 = .ok (.aload_n 0, 1) := by decide +kernel
theorem dX12_hide_14 : decode cX12_hide 14 = .ok (.iconst 1, 1) := by decide +kernel
theorem dX12_hide_15 : decode cX12_hide 15 = .ok (.invokevirtual 137, 3) := by decide +kernel
theorem dX12_hide_18 : decode cX12_hide 18 = .ok (.ireturn, 1) := by decide +kernel
theorem dX12_hide_19 : decode cX12_hide 19 = .ok (.iload_n 1, 1) := by decide +kernel
theorem dX12_hide_20 : decode cX12_hide 20 = .ok (.iconst 0, 1) := by decide +kernel
theorem dX12_hide_21 : decode cX12_hide 21 = .ok (.iconst 3, 1) := by decide +kernel
theorem dX12_hide_22 : decode cX12_hide 22 = .ok (.invokestatic 122, 3) := by decide +kernel
theorem dX12_hide_25 : decode cX12_hide 25 = .ok (.ifCond .ne 9, 3) := by decide +kernel
theorem dX12_hide_28 : decode cX12_hide 28 = .ok (.aload_n 0, 1) := by decide +kernel
theorem dX12_hide_29 : decode cX12_hide 29 = .ok (.iconst 2, 1) := by decide +kernel
theorem dX12_hide_30 : decode cX12_hide 30 = .ok (.invokevirtual 137, 3) := by decide +kernel
theorem dX12_hide_33 : decode cX12_hide 33 = .ok (.ireturn, 1) := by decide +kernel
theorem dX12_hide_34 : decode cX12_hide 34 = .ok (.aload_n 0, 1) := by decide +kernel
theorem dX12_hide_35 : decode cX12_hide 35 = .ok (.aload_n 0, 1) := by decide +kernel
theorem dX12_hide_36 : decode cX12_hide 36 = .ok (.iconst 5, 1) := by decide +kernel
theorem dX12_hide_37 : decode cX12_hide 37 = .ok (.iload_n 1, 1) := by decide +kernel
theorem dX12_hide_38 : decode cX12_hide 38 = .ok (.iload_n 2, 1) := by decide +kernel
theorem dX12_hide_39 : decode cX12_hide 39 = .ok (.iconst 0, 1) := by decide +kernel
theorem dX12_hide_40 : decode cX12_hide 40 = .ok (.iconst 0, 1) := by decide +kernel
theorem dX12_hide_41 : decode cX12_hide 41 = .ok (.invokevirtual 217, 3) := by decide +kernel
theorem dX12_hide_44 : decode cX12_hide 44 = .ok (.iconst 3, 1) := by decide +kernel
theorem dX12_hide_45 : decode cX12_hide 45 = .ok (.invokevirtual 221, 3) := by decide +kernel
theorem dX12_hide_48 : decode cX12_hide 48 = .ok (.ireturn, 1) := by decide +kernel
theorem dX12_call_0 : decode cX12_call 0 = .ok (.aload_n 0, 1) := by decide +kernel
theorem dX12_call_1 : decode cX12_call 1 = .ok (.iconst 0, 1) := by decide +kernel
theorem dX12_call_2 : decode cX12_call 2 = .ok (.putfield 118, 3) := by decide +kernel
theorem dX12_call_5 : decode cX12_call 5 = .ok (.iload_n 1, 1) := by decide +kernel
theorem dX12_call_6 : decode cX12_call 6 = .ok (.iconst 0, 1) := by decide +kernel
theorem dX12_call_7 : decode cX12_call 7 = .ok (.iconst 5, 1) := by decide +kernel
theorem dX12_call_8 : decode cX12_call 8 = .ok (.invokestatic 122, 3) := by decide +kernel
theorem dX12_call_11 : decode cX12_call 11 = .ok (.ifCond .ne 9, 3) := by decide +kernel
theorem dX12_call_14 : decode cX12_call 14 = .ok (.aload_n 0, 1) := by decide +kernel
theorem dX12_call_15 : decode cX12_call 15 = .ok (.iconst 1, 1) := by decide +kernel
theorem dX12_call_16 : decode cX12_call 16 = .ok (.invokevirtual 137, 3) := by decide +kernel
theorem dX12_call_19 : decode cX12_call 19 = .ok (.ireturn, 1) := by decide +kernel
theorem dX12_call_20 : decode cX12_call 20 = .ok (.iload_n 2, 1) := by decide +kernel
theorem dX12_call_21 : decode cX12_call 21 = .ok (.invokestatic 214, 3) := by decide +kernel
theorem dX12_call_24 : decode cX12_call 24 = .ok (.ifCond .eq 10, 3) := by decide +kernel
theorem dX12_call_27 : decode cX12_call 27 = .ok (.iload_n 3, 1) := by decide +kernel
theorem dX12_call_28 : decode cX12_call 28 = .ok (.invokestatic 214, 3) := by decide +kernel
theorem dX12_call_31 : decode cX12_call 31 = .ok (.ifCond .ne 9, 3) := by decide +kernel
theorem dX12_call_34 : decode cX12_call 34 = .ok (.aload_n 0, 1) := by decide +kernel
theorem dX12_call_35 : decode cX12_call 35 = .ok (.iconst 2, 1) := by decide +kernel
theorem dX12_call_36 : decode cX12_call 36 = .ok (.invokevirtual 137, 3) := by decide +kernel
theorem dX12_call_39 : decode cX12_call 39 = .ok (.ireturn, 1) := by decide +kernel
theorem dX12_call_40 : decode cX12_call 40 = .ok (.aload_n 0, 1) := by decide +kernel
theorem dX12_call_41 : decode cX12_call 41 = .ok (.aload_n 0, 1) := by decide +kernel
theorem dX12_call_42 : decode cX12_call 42 = .ok (.bipush 6, 2) := by decide +kernel
theorem dX12_call_44 : decode cX12_call 44 = .ok (.iload_n 1, 1) := by decide +kernel
theorem dX12_call_45 : decode cX12_call 45 = .ok (.iload_n 2, 1) := by decide +kernel
theorem dX12_call_46 : decode cX12_call 46 = .ok (.iload_n 3, 1) := by decide +kernel
theorem dX12_call_47 : decode cX12_call 47 = .ok (.iconst 0, 1) := by decide +kernel
theorem dX12_call_48 : decode cX12_call 48 = .ok (.invokevirtual 217, 3) := by decide +kernel
theorem dX12_call_51 : decode cX12_call 51 = .ok (.iconst 3, 1) := by decide +kernel
theorem dX12_call_52 : decode cX12_call 52 = .ok (.invokevirtual 221, 3) := by decide +kernel
theorem dX12_call_55 : decode cX12_call 55 = .ok (.ireturn, 1) := by decide +kernel
theorem dX12_next_0 : decode cX12_next 0 = .ok (.aload_n 0, 1) := by decide +kernel
theorem dX12_next_1 : decode cX12_next 1 = .ok (.iconst 0, 1) := by decide +kernel
theorem dX12_next_2 : decode cX12_next 2 = .ok (.putfield 118, 3) := by decide +kernel
theorem dX12_next_5 : decode cX12_next 5 = .ok (.aload_n 0, 1) := by decide +kernel
theorem dX12_next_6 : decode cX12_next 6 = .ok (.iload_n 1, 1) := by decide +kernel
theorem dX12_next_7 : decode cX12_next 7 = .ok (.invokevirtual 225, 3) := by decide +kernel
theorem dX12_next_10 : decode cX12_next 10 = .ok (.ifCond .ne 9, 3) := by decide +kernel
theorem dX12_next_13 : decode cX12_next 13 = .ok (.aload_n 0, 1) := by decide +kernel
theorem dX12_next_14 : decode cX12_next 14 = .ok (.iconst 1, 1) := by decide +kernel
theorem dX12_next_15 : decode cX12_next 15 = .ok (.invokevirtual 137, 3) := by decide +kernel
theorem dX12_next_18 : decode cX12_next 18 = .ok (.ireturn, 1) := by decide +kernel
theorem dX12_next_19 : decode cX12_next 19 = .ok (.aload_n 0, 1) := by decide +kernel
theorem dX12_next_20 : decode cX12_next 20 = .ok (.aload_n 0, 1) := by decide +kernel
theorem dX12_next_21 : decode cX12_next 21 = .ok (.bipush 7, 2) := by decide +kernel
theorem dX12_next_23 : decode cX12_next 23 = .ok (.iload_n 1, 1) := by decide +kernel
theorem dX12_next_24 : decode cX12_next 24 = .ok (.iconst 0, 1) := by decide +kernel
theorem dX12_next_25 : decode cX12_next 25 = .ok (.iconst 0, 1) := by decide +kernel
theorem dX12_next_26 : decode cX12_next 26 = .ok (.iconst 0, 1) := by decide +kernel
theorem dX12_next_27 : decode cX12_next 27 = .ok (.invokevirtual 217, 3) := by decide +kernel
theorem dX12_next_30 : decode cX12_next 30 = .ok (.iconst 2, 1) := by decide +kernel
theorem dX12_next_31 : decode cX12_next 31 = .ok (.invokevirtual 221, 3) := by decide +kernel
theorem dX12_next_34 : decode cX12_next 34 = .ok (.ireturn, 1) := by decide +kernel
theorem dX12_each_0 : decode cX12_each 0 = .ok (.aload_n 0, 1) := by decide +kernel
theorem dX12_each_1 : decode cX12_each 1 = .ok (.iconst 0, 1) := by decide +kernel
theorem dX12_each_2 : decode cX12_each 2 = .ok (.putfield 118, 3) := by decide +kernel
theorem dX12_each_5 : decode cX12_each 5 = .ok (.aload_n 0, 1) := by decide +kernel
theorem dX12_each_6 : decode cX12_each 6 = .ok (.iload_n 1, 1) := by decide +kernel
theorem dX12_each_7 : decode cX12_each 7 = .ok (.invokevirtual 225, 3) := by decide +kernel
theorem dX12_each_10 : decode cX12_each 10 = .ok (.ifCond .ne 9, 3) := by decide +kernel
theorem dX12_each_13 : decode cX12_each 13 = .ok (.aload_n 0, 1) := by decide +kernel
theorem dX12_each_14 : decode cX12_each 14 = .ok (.iconst 1, 1) := by decide +kernel
theorem dX12_each_15 : decode cX12_each 15 = .ok (.invokevirtual 137, 3) := by decide +kernel
theorem dX12_each_18 : decode cX12_each 18 = .ok (.ireturn, 1) := by decide +kernel
theorem dX12_each_19 : decode cX12_each 19 = .ok (.aload_n 0, 1) := by decide +kernel
theorem dX12_each_20 : decode cX12_each 20 = .ok (.aload_n 0, 1) := by decide +kernel
theorem dX12_each_21 : decode cX12_each 21 = .ok (.bipush 8, 2) := by decide +kernel
theorem dX12_each_23 : decode cX12_each 23 = .ok (.iload_n 1, 1) := by decide +kernel
theorem dX12_each_24 : decode cX12_each 24 = .ok (.iconst 0, 1) := by decide +kernel
theorem dX12_each_25 : decode cX12_each 25 = .ok (.iconst 0, 1) := by decide +kernel
theorem dX12_each_26 : decode cX12_each 26 = .ok (.iconst 0, 1) := by decide +kernel
theorem dX12_each_27 : decode cX12_each 27 = .ok (.invokevirtual 217, 3) := by decide +kernel
theorem dX12_each_30 : decode cX12_each 30 = .ok (.iconst 2, 1) := by decide +kernel
theorem dX12_each_31 : decode cX12_each 31 = .ok (.invokevirtual 221, 3) := by decide +kernel
theorem dX12_each_34 : decode cX12_each 34 = .ok (.ireturn, 1) := by decide +kernel
theorem dX12_unless_0 : decode cX12_unless 0 = .ok (.aload_n 0, 1) := by decide +kernel
theorem dX12_unless_1 : decode cX12_unless 1 = .ok (.iconst 0, 1) := by decide +kernel
theorem dX12_unless_2 : decode cX12_unless 2 = .ok (.putfield 118, 3) := by decide +kernel
theorem dX12_unless_5 : decode cX12_unless 5 = .ok (.aload_n 0, 1) := by decide +kernel
theorem dX12_unless_6 : decode cX12_unless 6 = .ok (.iload 5, 2) := by decide +kernel
theorem dX12_unless_8 : decode cX12_unless 8 = .ok (.invokevirtual 225, 3) := by decide +kernel
theorem dX12_unless_11 : decode cX12_unless 11 = .ok (.ifCond .ne 9, 3) := by decide +kernel
theorem dX12_unless_14 : decode cX12_unless 14 = .ok (.aload_n 0, 1) := by decide +kernel
theorem dX12_unless_15 : decode cX12_unless 15 = .ok (.iconst 1, 1) := by decide +kernel
theorem dX12_unless_16 : decode cX12_unless 16 = .ok (.invokevirtual 137, 3) := by decide +kernel
theorem dX12_unless_19 : decode cX12_unless 19 = .ok (.ireturn, 1) := by decide +kernel
theorem dX12_unless_20 : decode cX12_unless 20 = .ok (.iload_n 2, 1) := by decide +kernel
theorem dX12_unless_21 : decode cX12_unless 21 = .ok (.iload_n 3, 1) := by decide +kernel
theorem dX12_unless_22 : decode cX12_unless 22 = .ok (.iload 4, 2) := by decide +kernel
theorem dX12_unless_24 : decode cX12_unless 24 = .ok (.invokestatic 231, 3) := by decide +kernel
theorem dX12_unless_27 : decode cX12_unless 27 = .ok (.ifCond .ne 9, 3) := by decide +kernel
theorem dX12_unless_30 : decode cX12_unless 30 = .ok (.aload_n 0, 1) := by decide +kernel
theorem dX12_unless_31 : decode cX12_unless 31 = .ok (.iconst 2, 1) := by decide +kernel
theorem dX12_unless_32 : decode cX12_unless 32 = .ok (.invokevirtual 137, 3) := by decide +kernel
theorem dX12_unless_35 : decode cX12_unless 35 = .ok (.ireturn, 1) := by decide +kernel
theorem dX12_unless_36 : decode cX12_unless 36 = .ok (.aload_n 0, 1) := by decide +kernel
theorem dX12_unless_37 : decode cX12_unless 37 = .ok (.aload_n 0, 1) := by decide +kernel
theorem dX12_unless_38 : decode cX12_unless 38 = .ok (.iload_n 1, 1) := by decide +kernel
theorem dX12_unless_39 : decode cX12_unless 39 = .ok (.ifCond .eq 8, 3) := by decide +kernel
theorem dX12_unless_42 : decode cX12_unless 42 = .ok (.bipush 10, 2) := by decide +kernel
theorem dX12_unless_44 : decode cX12_unless 44 = .ok (.goto 5, 3) := by decide +kernel
theorem dX12_unless_47 : decode cX12_unless 47 = .ok (.bipush 9, 2) := by decide +kernel
theorem dX12_unless_49 : decode cX12_unless 49 = .ok (.iload_n 2, 1) := by decide +kernel
theorem dX12_unless_50 : decode cX12_unless 50 = .ok (.iload_n 3, 1) := by decide +kernel
theorem dX12_unless_51 : decode cX12_unless 51 = .ok (.iload 4, 2) := by decide +kernel
theorem dX12_unless_53 : decode cX12_unless 53 = .ok (.iload 5, 2) := by decide +kernel
theorem dX12_unless_55 : decode cX12_unless 55 = .ok (.invokevirtual 217, 3) := by decide +kernel
theorem dX12_unless_58 : decode cX12_unless 58 = .ok (.iconst 3, 1) := by decide +kernel
theorem dX12_unless_59 : decode cX12_unless 59 = .ok (.invokevirtual 221, 3) := by decide +kernel
theorem dX12_unless_62 : decode cX12_unless 62 = .ok (.ireturn, 1) := by decide +kernel
theorem dX12_lot_0 : decode cX12_lot 0 = .ok (.aload_n 0, 1) := by decide +kernel
theorem dX12_lot_1 : decode cX12_lot 1 = .ok (.iconst 0, 1) := by decide +kernel
theorem dX12_lot_2 : decode cX12_lot 2 = .ok (.putfield 118, 3) := by decide +kernel
theorem dX12_lot_5 : decode cX12_lot 5 = .ok (.aload_n 0, 1) := by decide +kernel
theorem dX12_lot_6 : decode cX12_lot 6 = .ok (.iload_n 2, 1) := by decide +kernel
theorem dX12_lot_7 : decode cX12_lot 7 = .ok (.invokevirtual 225, 3) := by decide +kernel
theorem dX12_lot_10 : decode cX12_lot 10 = .ok (.ifCond .eq 12, 3) := by decide +kernel
theorem dX12_lot_13 : decode cX12_lot 13 = .ok (.aload_n 0, 1) := by decide +kernel
theorem dX12_lot_14 : decode cX12_lot 14 = .ok (.iload 4, 2) := by decide +kernel
theorem dX12_lot_16 : decode cX12_lot 16 = .ok (.invokevirtual 225, 3) := by decide +kernel
theorem dX12_lot_19 : decode cX12_lot 19 = .ok (.ifCond .ne 9, 3) := by decide +kernel
theorem dX12_lot_22 : decode cX12_lot 22 = .ok (.aload_n 0, 1) := by decide +kernel
theorem dX12_lot_23 : decode cX12_lot 23 = .ok (.iconst 1, 1) := by decide +kernel
theorem dX12_lot_24 : decode cX12_lot 24 = .ok (.invokevirtual 137, 3) := by decide +kernel
theorem dX12_lot_27 : decode cX12_lot 27 = .ok (.ireturn, 1) := by decide +kernel
theorem dX12_lot_28 : decode cX12_lot 28 = .ok (.iload_n 1, 1) := by decide +kernel
theorem dX12_lot_29 : decode cX12_lot 29 = .ok (.iconst 1, 1) := by decide +kernel
theorem dX12_lot_30 : decode cX12_lot 30 = .ok (.bipush 9, 2) := by decide +kernel
theorem dX12_lot_32 : decode cX12_lot 32 = .ok (.invokestatic 122, 3) := by decide +kernel
theorem dX12_lot_35 : decode cX12_lot 35 = .ok (.ifCond .eq 13, 3) := by decide +kernel
theorem dX12_lot_38 : decode cX12_lot 38 = .ok (.iload_n 3, 1) := by decide +kernel
theorem dX12_lot_39 : decode cX12_lot 39 = .ok (.iconst 1, 1) := by decide +kernel
theorem dX12_lot_40 : decode cX12_lot 40 = .ok (.bipush 9, 2) := by decide +kernel
theorem dX12_lot_42 : decode cX12_lot 42 = .ok (.invokestatic 122, 3) := by decide +kernel
theorem dX12_lot_45 : decode cX12_lot 45 = .ok (.ifCond .ne 9, 3) := by decide +kernel
theorem dX12_lot_48 : decode cX12_lot 48 = .ok (.aload_n 0, 1) := by decide +kernel
theorem dX12_lot_49 : decode cX12_lot 49 = .ok (.iconst 2, 1) := by decide +kernel
theorem dX12_lot_50 : decode cX12_lot 50 = .ok (.invokevirtual 137, 3) := by decide +kernel
theorem dX12_lot_53 : decode cX12_lot 53 = .ok (.ireturn, 1) := by decide +kernel
theorem dX12_lot_54 : decode cX12_lot 54 = .ok (.aload_n 0, 1) := by decide +kernel
theorem dX12_lot_55 : decode cX12_lot 55 = .ok (.aload_n 0, 1) := by decide +kernel
theorem dX12_lot_56 : decode cX12_lot 56 = .ok (.bipush 11, 2) := by decide +kernel
theorem dX12_lot_58 : decode cX12_lot 58 = .ok (.iload_n 1, 1) := by decide +kernel
theorem dX12_lot_59 : decode cX12_lot 59 = .ok (.iload_n 2, 1) := by decide +kernel
theorem dX12_lot_60 : decode cX12_lot 60 = .ok (.iload_n 3, 1) := by decide +kernel
theorem dX12_lot_61 : decode cX12_lot 61 = .ok (.iload 4, 2) := by decide +kernel
theorem dX12_lot_63 : decode cX12_lot 63 = .ok (.invokevirtual 217, 3) := by decide +kernel
theorem dX12_lot_66 : decode cX12_lot 66 = .ok (.iconst 3, 1) := by decide +kernel
theorem dX12_lot_67 : decode cX12_lot 67 = .ok (.invokevirtual 221, 3) := by decide +kernel
theorem dX12_lot_70 : decode cX12_lot 70 = .ok (.ireturn, 1) := by decide +kernel
theorem dX12_attempt_0 : decode cX12_attempt 0 = .ok (.aload_n 0, 1) := by decide +kernel
theorem dX12_attempt_1 : decode cX12_attempt 1 = .ok (.iconst 0, 1) := by decide +kernel
theorem dX12_attempt_2 : decode cX12_attempt 2 = .ok (.putfield 118, 3) := by decide +kernel
theorem dX12_attempt_5 : decode cX12_attempt 5 = .ok (.aload_n 0, 1) := by decide +kernel
theorem dX12_attempt_6 : decode cX12_attempt 6 = .ok (.iload_n 1, 1) := by decide +kernel
theorem dX12_attempt_7 : decode cX12_attempt 7 = .ok (.invokevirtual 225, 3) := by decide +kernel
theorem dX12_attempt_10 : decode cX12_attempt 10 = .ok (.ifCond .eq 11, 3) := by decide +kernel
theorem dX12_attempt_13 : decode cX12_attempt 13 = .ok (.aload_n 0, 1) := by decide +kernel
theorem dX12_attempt_14 : decode cX12_attempt 14 = .ok (.iload_n 2, 1) := by decide +kernel
theorem dX12_attempt_15 : decode cX12_attempt 15 = .ok (.invokevirtual 225, 3) := by decide +kernel
theorem dX12_attempt_18 : decode cX12_attempt 18 = .ok (.ifCond .ne 9, 3) := by decide +kernel
theorem dX12_attempt_21 : decode cX12_attempt 21 = .ok (.aload_n 0, 1) := by decide +kernel
theorem dX12_attempt_22 : decode cX12_attempt 22 = .ok (.iconst 1, 1) := by decide +kernel
theorem dX12_attempt_23 : decode cX12_attempt 23 = .ok (.invokevirtual 137, 3) := by decide +kernel
theorem dX12_attempt_26 : decode cX12_attempt 26 = .ok (.ireturn, 1) := by decide +kernel
theorem dX12_attempt_27 : decode cX12_attempt 27 = .ok (.aload_n 0, 1) := by decide +kernel
theorem dX12_attempt_28 : decode cX12_attempt 28 = .ok (.aload_n 0, 1) := by decide +kernel
theorem dX12_attempt_29 : decode cX12_attempt 29 = .ok (.bipush 12, 2) := by decide +kernel
theorem dX12_attempt_31 : decode cX12_attempt 31 = .ok (.iload_n 1, 1) := by decide +kernel
theorem dX12_attempt_32 : decode cX12_attempt 32 = .ok (.iload_n 2, 1) := by decide +kernel
theorem dX12_attempt_33 : decode cX12_attempt 33 = .ok (.iconst 0, 1) := by decide +kernel
theorem dX12_attempt_34 : decode cX12_attempt 34 = .ok (.iconst 0, 1) := by decide +kernel
theorem dX12_attempt_35 : decode cX12_attempt 35 = .ok (.invokevirtual 217, 3) := by decide +kernel
theorem dX12_attempt_38 : decode cX12_attempt 38 = .ok (.iconst 2, 1) := by decide +kernel
theorem dX12_attempt_39 : decode cX12_attempt 39 = .ok (.invokevirtual 221, 3) := by decide +kernel
theorem dX12_attempt_42 : decode cX12_attempt 42 = .ok (.ireturn, 1) := by decide +kernel
theorem dX12_define_0 : decode cX12_define 0 = .ok (.aload_n 0, 1) := by decide +kernel
theorem dX12_define_1 : decode cX12_define 1 = .ok (.iconst 0, 1) := by decide +kernel
theorem dX12_define_2 : decode cX12_define 2 = .ok (.putfield 118, 3) := by decide +kernel
theorem dX12_define_5 : decode cX12_define 5 = .ok (.iload_n 1, 1) := by decide +kernel
theorem dX12_define_6 : decode cX12_define 6 = .ok (.iconst 0, 1) := by decide +kernel
theorem dX12_define_7 : decode cX12_define 7 = .ok (.iconst 5, 1) := by decide +kernel
theorem dX12_define_8 : decode cX12_define 8 = .ok (.invokestatic 122, 3) := by decide +kernel
theorem dX12_define_11 : decode cX12_define 11 = .ok (.ifCond .eq 11, 3) := by decide +kernel
theorem dX12_define_14 : decode cX12_define 14 = .ok (.aload_n 0, 1) := by decide +kernel
theorem dX12_define_15 : decode cX12_define 15 = .ok (.iload_n 2, 1) := by decide +kernel
theorem dX12_define_16 : decode cX12_define 16 = .ok (.invokevirtual 225, 3) := by decide +kernel
theorem dX12_define_19 : decode cX12_define 19 = .ok (.ifCond .ne 9, 3) := by decide +kernel
theorem dX12_define_22 : decode cX12_define 22 = .ok (.aload_n 0, 1) := by decide +kernel
theorem dX12_define_23 : decode cX12_define 23 = .ok (.iconst 1, 1) := by decide +kernel
theorem dX12_define_24 : decode cX12_define 24 = .ok (.invokevirtual 137, 3) := by decide +kernel
theorem dX12_define_27 : decode cX12_define 27 = .ok (.ireturn, 1) := by decide +kernel
theorem dX12_define_28 : decode cX12_define 28 = .ok (.aload_n 0, 1) := by decide +kernel
theorem dX12_define_29 : decode cX12_define 29 = .ok (.getfield 31, 3) := by decide +kernel
theorem dX12_define_32 : decode cX12_define 32 = .ok (.iload_n 1, 1) := by decide +kernel
theorem dX12_define_33 : decode cX12_define 33 = .ok (.iaload, 1) := by decide +kernel
theorem dX12_define_34 : decode cX12_define 34 = .ok (.istore_n 3, 1) := by decide +kernel
theorem dX12_define_35 : decode cX12_define 35 = .ok (.aload_n 0, 1) := by decide +kernel
theorem dX12_define_36 : decode cX12_define 36 = .ok (.getfield 31, 3) := by decide +kernel
theorem dX12_define_39 : decode cX12_define 39 = .ok (.iload_n 1, 1) := by decide +kernel
theorem dX12_define_40 : decode cX12_define 40 = .ok (.iload_n 2, 1) := by decide +kernel
theorem dX12_define_41 : decode cX12_define 41 = .ok (.iastore, 1) := by decide +kernel
theorem dX12_define_42 : decode cX12_define 42 = .ok (.iload_n 3, 1) := by decide +kernel
theorem dX12_define_43 : decode cX12_define 43 = .ok (.ireturn, 1) := by decide +kernel
theorem dX12_isPattern_0 : decode cX12_isPattern 0 = .ok (.iload_n 0, 1) := by decide +kernel
theorem dX12_isPattern_1 : decode cX12_isPattern 1 = .ok (.invokestatic 214, 3) := by decide +kernel
theorem dX12_isPattern_4 : decode cX12_isPattern 4 = .ok (.ifCond .ne 10, 3) := by decide +kernel
theorem dX12_isPattern_7 : decode cX12_isPattern 7 = .ok (.iload_n 0, 1) := by decide +kernel
theorem dX12_isPattern_8 : decode cX12_isPattern 8 = .ok (.sipush 300, 3) := by decide +kernel
theorem dX12_isPattern_11 : decode cX12_isPattern 11 = .ok (.if_icmp .ne 7, 3) := by decide +kernel
theorem dX12_isPattern_14 : decode cX12_isPattern 14 = .ok (.iconst 1, 1) := by decide +kernel
theorem dX12_isPattern_15 : decode cX12_isPattern 15 = .ok (.goto 4, 3) := by decide +kernel
theorem dX12_isPattern_18 : decode cX12_isPattern 18 = .ok (.iconst 0, 1) := by decide +kernel
theorem dX12_isPattern_19 : decode cX12_isPattern 19 = .ok (.ireturn, 1) := by decide +kernel
theorem dX12_putHead_0 : decode cX12_putHead 0 = .ok (.aload_n 0, 1) := by decide +kernel
theorem dX12_putHead_1 : decode cX12_putHead 1 = .ok (.getfield 49, 3) := by decide +kernel
theorem dX12_putHead_4 : decode cX12_putHead 4 = .ok (.iconst 4, 1) := by decide +kernel
theorem dX12_putHead_5 : decode cX12_putHead 5 = .ok (.aload_n 0, 1) := by decide +kernel
theorem dX12_putHead_6 : decode cX12_putHead 6 = .ok (.getfield 234, 3) := by decide +kernel
theorem dX12_putHead_9 : decode cX12_putHead 9 = .ok (.imul, 1) := by decide +kernel
theorem dX12_putHead_10 : decode cX12_putHead 10 = .ok (.iload_n 1, 1) := by decide +kernel
theorem dX12_putHead_11 : decode cX12_putHead 11 = .ok (.iastore, 1) := by decide +kernel
theorem dX12_putHead_12 : decode cX12_putHead 12 = .ok (.aload_n 0, 1) := by decide +kernel
theorem dX12_putHead_13 : decode cX12_putHead 13 = .ok (.getfield 49, 3) := by decide +kernel
theorem dX12_putHead_16 : decode cX12_putHead 16 = .ok (.iconst 4, 1) := by decide +kernel
theorem dX12_putHead_17 : decode cX12_putHead 17 = .ok (.aload_n 0, 1) := by decide +kernel
theorem dX12_putHead_18 : decode cX12_putHead 18 = .ok (.getfield 234, 3) := by decide +kernel
theorem dX12_putHead_21 : decode cX12_putHead 21 = .ok (.imul, 1) := by decide +kernel
theorem dX12_putHead_22 : decode cX12_putHead 22 = .ok (.iconst 1, 1) := by decide +kernel
theorem dX12_putHead_23 : decode cX12_putHead 23 = .ok (.iadd, 1) := by decide +kernel
theorem dX12_putHead_24 : decode cX12_putHead 24 = .ok (.iload_n 2, 1) := by decide +kernel
theorem dX12_putHead_25 : decode cX12_putHead 25 = .ok (.iastore, 1) := by decide +kernel
theorem dX12_putHead_26 : decode cX12_putHead 26 = .ok (.aload_n 0, 1) := by decide +kernel
theorem dX12_putHead_27 : decode cX12_putHead 27 = .ok (.getfield 49, 3) := by decide +kernel
theorem dX12_putHead_30 : decode cX12_putHead 30 = .ok (.iconst 4, 1) := by decide +kernel
theorem dX12_putHead_31 : decode cX12_putHead 31 = .ok (.aload_n 0, 1) := by decide +kernel
theorem dX12_putHead_32 : decode cX12_putHead 32 = .ok (.getfield 234, 3) := by decide +kernel
theorem dX12_putHead_35 : decode cX12_putHead 35 = .ok (.imul, 1) := by decide +kernel
theorem dX12_putHead_36 : decode cX12_putHead 36 = .ok (.iconst 2, 1) := by decide +kernel
theorem dX12_putHead_37 : decode cX12_putHead 37 = .ok (.iadd, 1) := by decide +kernel
theorem dX12_putHead_38 : decode cX12_putHead 38 = .ok (.iload_n 3, 1) := by decide +kernel
theorem dX12_putHead_39 : decode cX12_putHead 39 = .ok (.iastore, 1) := by decide +kernel
theorem dX12_putHead_40 : decode cX12_putHead 40 = .ok (.aload_n 0, 1) := by decide +kernel
theorem dX12_putHead_41 : decode cX12_putHead 41 = .ok (.getfield 49, 3) := by decide +kernel
theorem dX12_putHead_44 : decode cX12_putHead 44 = .ok (.iconst 4, 1) := by decide +kernel
theorem dX12_putHead_45 : decode cX12_putHead 45 = .ok (.aload_n 0, 1) := by decide +kernel
theorem dX12_putHead_46 : decode cX12_putHead 46 = .ok (.getfield 234, 3) := by decide +kernel
theorem dX12_putHead_49 : decode cX12_putHead 49 = .ok (.imul, 1) := by decide +kernel
theorem dX12_putHead_50 : decode cX12_putHead 50 = .ok (.iconst 3, 1) := by decide +kernel
theorem dX12_putHead_51 : decode cX12_putHead 51 = .ok (.iadd, 1) := by decide +kernel
theorem dX12_putHead_52 : decode cX12_putHead 52 = .ok (.iload 4, 2) := by decide +kernel
theorem dX12_putHead_54 : decode cX12_putHead 54 = .ok (.ifCond .eq 7, 3) := by decide +kernel
theorem dX12_putHead_57 : decode cX12_putHead 57 = .ok (.iconst 1, 1) := by decide +kernel
theorem dX12_putHead_58 : decode cX12_putHead 58 = .ok (.goto 4, 3) := by decide +kernel
theorem dX12_putHead_61 : decode cX12_putHead 61 = .ok (.iconst 0, 1) := by decide +kernel
theorem dX12_putHead_62 : decode cX12_putHead 62 = .ok (.iastore, 1) := by decide +kernel
theorem dX12_putHead_63 : decode cX12_putHead 63 = .ok (.aload_n 0, 1) := by decide +kernel
theorem dX12_putHead_64 : decode cX12_putHead 64 = .ok (.dup, 1) := by decide +kernel
theorem dX12_putHead_65 : decode cX12_putHead 65 = .ok (.getfield 234, 3) := by decide +kernel
theorem dX12_putHead_68 : decode cX12_putHead 68 = .ok (.iconst 1, 1) := by decide +kernel
theorem dX12_putHead_69 : decode cX12_putHead 69 = .ok (.iadd, 1) := by decide +kernel
theorem dX12_putHead_70 : decode cX12_putHead 70 = .ok (.putfield 234, 3) := by decide +kernel
theorem dX12_putHead_73 : decode cX12_putHead 73 = .ok (.return_, 1) := by decide +kernel
theorem dX12_head_0 : decode cX12_head 0 = .ok (.aload_n 0, 1) := by decide +kernel
theorem dX12_head_1 : decode cX12_head 1 = .ok (.iconst 0, 1) := by decide +kernel
theorem dX12_head_2 : decode cX12_head 2 = .ok (.putfield 118, 3) := by decide +kernel
theorem dX12_head_5 : decode cX12_head 5 = .ok (.iload_n 1, 1) := by decide +kernel
theorem dX12_head_6 : decode cX12_head 6 = .ok (.iconst 0, 1) := by decide +kernel
theorem dX12_head_7 : decode cX12_head 7 = .ok (.iconst 5, 1) := by decide +kernel
theorem dX12_head_8 : decode cX12_head 8 = .ok (.invokestatic 122, 3) := by decide +kernel
theorem dX12_head_11 : decode cX12_head 11 = .ok (.ifCond .eq 17, 3) := by decide +kernel
theorem dX12_head_14 : decode cX12_head 14 = .ok (.iload_n 2, 1) := by decide +kernel
theorem dX12_head_15 : decode cX12_head 15 = .ok (.invokestatic 237, 3) := by decide +kernel
theorem dX12_head_18 : decode cX12_head 18 = .ok (.ifCond .eq 10, 3) := by decide +kernel
theorem dX12_head_21 : decode cX12_head 21 = .ok (.iload_n 3, 1) := by decide +kernel
theorem dX12_head_22 : decode cX12_head 22 = .ok (.invokestatic 237, 3) := by decide +kernel
theorem dX12_head_25 : decode cX12_head 25 = .ok (.ifCond .ne 10, 3) := by decide +kernel
theorem dX12_head_28 : decode cX12_head 28 = .ok (.aload_n 0, 1) := by decide +kernel
theorem dX12_head_29 : decode cX12_head 29 = .ok (.iconst 1, 1) := by decide +kernel
theorem dX12_head_30 : decode cX12_head 30 = .ok (.putfield 118, 3) := by decide +kernel
theorem dX12_head_33 : decode cX12_head 33 = .ok (.iconst 0, 1) := by decide +kernel
theorem dX12_head_34 : decode cX12_head 34 = .ok (.ireturn, 1) := by decide +kernel
theorem dX12_head_35 : decode cX12_head 35 = .ok (.aload_n 0, 1) := by decide +kernel
theorem dX12_head_36 : decode cX12_head 36 = .ok (.getfield 240, 3) := by decide +kernel
theorem dX12_head_39 : decode cX12_head 39 = .ok (.istore 5, 2) := by decide +kernel
theorem dX12_head_41 : decode cX12_head 41 = .ok (.aload_n 0, 1) := by decide +kernel
theorem dX12_head_42 : decode cX12_head 42 = .ok (.iconst 1, 1) := by decide +kernel
theorem dX12_head_43 : decode cX12_head 43 = .ok (.putfield 240, 3) := by decide +kernel
theorem dX12_head_46 : decode cX12_head 46 = .ok (.aload_n 0, 1) := by decide +kernel
theorem dX12_head_47 : decode cX12_head 47 = .ok (.iconst 0, 1) := by decide +kernel
theorem dX12_head_48 : decode cX12_head 48 = .ok (.putfield 234, 3) := by decide +kernel
theorem dX12_head_51 : decode cX12_head 51 = .ok (.aload_n 0, 1) := by decide +kernel
theorem dX12_head_52 : decode cX12_head 52 = .ok (.iconst 0, 1) := by decide +kernel
theorem dX12_head_53 : decode cX12_head 53 = .ok (.putfield 243, 3) := by decide +kernel
theorem dX12_head_56 : decode cX12_head 56 = .ok (.aload_n 0, 1) := by decide +kernel
theorem dX12_head_57 : decode cX12_head 57 = .ok (.getfield 52, 3) := by decide +kernel
theorem dX12_head_60 : decode cX12_head 60 = .ok (.iconst 0, 1) := by decide +kernel
theorem dX12_head_61 : decode cX12_head 61 = .ok (.iconst (-1), 1) := by decide +kernel
theorem dX12_head_62 : decode cX12_head 62 = .ok (.iastore, 1) := by decide +kernel
theorem dX12_head_63 : decode cX12_head 63 = .ok (.aload_n 0, 1) := by decide +kernel
theorem dX12_head_64 : decode cX12_head 64 = .ok (.iload_n 1, 1) := by decide +kernel
theorem dX12_head_65 : decode cX12_head 65 = .ok (.iload_n 2, 1) := by decide +kernel
theorem dX12_head_66 : decode cX12_head 66 = .ok (.iload_n 3, 1) := by decide +kernel
theorem dX12_head_67 : decode cX12_head 67 = .ok (.iload 4, 2) := by decide +kernel
theorem dX12_head_69 : decode cX12_head 69 = .ok (.invokevirtual 246, 3) := by decide +kernel
theorem dX12_head_72 : decode cX12_head 72 = .ok (.iload 5, 2) := by decide +kernel
theorem dX12_head_74 : decode cX12_head 74 = .ok (.ireturn, 1) := by decide +kernel
theorem dX12_other_0 : decode cX12_other 0 = .ok (.aload_n 0, 1) := by decide +kernel
theorem dX12_other_1 : decode cX12_other 1 = .ok (.iconst 0, 1) := by decide +kernel
theorem dX12_other_2 : decode cX12_other 2 = .ok (.putfield 118, 3) := by decide +kernel
theorem dX12_other_5 : decode cX12_other 5 = .ok (.iload_n 1, 1) := by decide +kernel
theorem dX12_other_6 : decode cX12_other 6 = .ok (.iconst 0, 1) := by decide +kernel
theorem dX12_other_7 : decode cX12_other 7 = .ok (.iconst 5, 1) := by decide +kernel
theorem dX12_other_8 : decode cX12_other 8 = .ok (.invokestatic 122, 3) := by decide +kernel
theorem dX12_other_11 : decode cX12_other 11 = .ok (.ifCond .eq 17, 3) := by decide +kernel
theorem dX12_other_14 : decode cX12_other 14 = .ok (.iload_n 2, 1) := by decide +kernel
theorem dX12_other_15 : decode cX12_other 15 = .ok (.invokestatic 237, 3) := by decide +kernel
theorem dX12_other_18 : decode cX12_other 18 = .ok (.ifCond .eq 10, 3) := by decide +kernel
theorem dX12_other_21 : decode cX12_other 21 = .ok (.iload_n 3, 1) := by decide +kernel
theorem dX12_other_22 : decode cX12_other 22 = .ok (.invokestatic 237, 3) := by decide +kernel
theorem dX12_other_25 : decode cX12_other 25 = .ok (.ifCond .ne 9, 3) := by decide +kernel
theorem dX12_other_28 : decode cX12_other 28 = .ok (.aload_n 0, 1) := by decide +kernel
theorem dX12_other_29 : decode cX12_other 29 = .ok (.iconst 1, 1) := by decide +kernel
theorem dX12_other_30 : decode cX12_other 30 = .ok (.invokevirtual 137, 3) := by decide +kernel
theorem dX12_other_33 : decode cX12_other 33 = .ok (.ireturn, 1) := by decide +kernel
theorem dX12_other_34 : decode cX12_other 34 = .ok (.aload_n 0, 1) := by decide +kernel
theorem dX12_other_35 : decode cX12_other 35 = .ok (.getfield 240, 3) := by decide +kernel
theorem dX12_other_38 : decode cX12_other 38 = .ok (.ifCond .eq 28, 3) := by decide +kernel
theorem dX12_other_41 : decode cX12_other 41 = .ok (.aload_n 0, 1) := by decide +kernel
theorem dX12_other_42 : decode cX12_other 42 = .ok (.getfield 234, 3) := by decide +kernel
theorem dX12_other_45 : decode cX12_other 45 = .ok (.iconst 2, 1) := by decide +kernel
theorem dX12_other_46 : decode cX12_other 46 = .ok (.if_icmp .eq 20, 3) := by decide +kernel
theorem dX12_other_49 : decode cX12_other 49 = .ok (.aload_n 0, 1) := by decide +kernel
theorem dX12_other_50 : decode cX12_other 50 = .ok (.getfield 52, 3) := by decide +kernel
theorem dX12_other_53 : decode cX12_other 53 = .ok (.iconst 0, 1) := by decide +kernel
theorem dX12_other_54 : decode cX12_other 54 = .ok (.iaload, 1) := by decide +kernel
theorem dX12_other_55 : decode cX12_other 55 = .ok (.iconst (-1), 1) := by decide +kernel
theorem dX12_other_56 : decode cX12_other 56 = .ok (.if_icmp .ne 10, 3) := by decide +kernel
theorem dX12_other_59 : decode cX12_other 59 = .ok (.aload_n 0, 1) := by decide +kernel
theorem dX12_other_60 : decode cX12_other 60 = .ok (.getfield 243, 3) := by decide +kernel
theorem dX12_other_63 : decode cX12_other 63 = .ok (.ifCond .le 9, 3) := by decide +kernel
theorem dX12_other_66 : decode cX12_other 66 = .ok (.aload_n 0, 1) := by decide +kernel
theorem dX12_other_67 : decode cX12_other 67 = .ok (.iconst 2, 1) := by decide +kernel
theorem dX12_other_68 : decode cX12_other 68 = .ok (.invokevirtual 137, 3) := by decide +kernel
theorem dX12_other_71 : decode cX12_other 71 = .ok (.ireturn, 1) := by decide +kernel
theorem dX12_other_72 : decode cX12_other 72 = .ok (.aload_n 0, 1) := by decide +kernel
theorem dX12_other_73 : decode cX12_other 73 = .ok (.iload_n 1, 1) := by decide +kernel
theorem dX12_other_74 : decode cX12_other 74 = .ok (.iload_n 2, 1) := by decide +kernel
theorem dX12_other_75 : decode cX12_other 75 = .ok (.iload_n 3, 1) := by decide +kernel
theorem dX12_other_76 : decode cX12_other 76 = .ok (.iload 4, 2) := by decide +kernel
theorem dX12_other_78 : decode cX12_other 78 = .ok (.invokevirtual 246, 3) := by decide +kernel
theorem dX12_other_81 : decode cX12_other 81 = .ok (.aload_n 0, 1) := by decide +kernel
theorem dX12_other_82 : decode cX12_other 82 = .ok (.getfield 234, 3) := by decide +kernel
theorem dX12_other_85 : decode cX12_other 85 = .ok (.ireturn, 1) := by decide +kernel
theorem dX12_isOfHead_0 : decode cX12_isOfHead 0 = .ok (.iload_n 1, 1) := by decide +kernel
theorem dX12_isOfHead_1 : decode cX12_isOfHead 1 = .ok (.invokestatic 126, 3) := by decide +kernel
theorem dX12_isOfHead_4 : decode cX12_isOfHead 4 = .ok (.istore_n 2, 1) := by decide +kernel
theorem dX12_isOfHead_5 : decode cX12_isOfHead 5 = .ok (.iconst 0, 1) := by decide +kernel
theorem dX12_isOfHead_6 : decode cX12_isOfHead 6 = .ok (.istore_n 3, 1) := by decide +kernel
theorem dX12_isOfHead_7 : decode cX12_isOfHead 7 = .ok (.iload_n 3, 1) := by decide +kernel
theorem dX12_isOfHead_8 : decode cX12_isOfHead 8 = .ok (.aload_n 0, 1) := by decide +kernel
theorem dX12_isOfHead_9 : decode cX12_isOfHead 9 = .ok (.getfield 234, 3) := by decide +kernel
theorem dX12_isOfHead_12 : decode cX12_isOfHead 12 = .ok (.if_icmp .ge 65, 3) := by decide +kernel
theorem dX12_isOfHead_15 : decode cX12_isOfHead 15 = .ok (.aload_n 0, 1) := by decide +kernel
theorem dX12_isOfHead_16 : decode cX12_isOfHead 16 = .ok (.getfield 240, 3) := by decide +kernel
theorem dX12_isOfHead_19 : decode cX12_isOfHead 19 = .ok (.ifCond .eq 58, 3) := by decide +kernel
theorem dX12_isOfHead_22 : decode cX12_isOfHead 22 = .ok (.iload_n 2, 1) := by decide +kernel
theorem dX12_isOfHead_23 : decode cX12_isOfHead 23 = .ok (.iload_n 1, 1) := by decide +kernel
theorem dX12_isOfHead_24 : decode cX12_isOfHead 24 = .ok (.sipush 200, 3) := by decide +kernel
theorem dX12_isOfHead_27 : decode cX12_isOfHead 27 = .ok (.sipush 203, 3) := by decide +kernel
theorem dX12_isOfHead_30 : decode cX12_isOfHead 30 = .ok (.invokestatic 122, 3) := by decide +kernel
theorem dX12_isOfHead_33 : decode cX12_isOfHead 33 = .ok (.ifCond .eq 35, 3) := by decide +kernel
theorem dX12_isOfHead_36 : decode cX12_isOfHead 36 = .ok (.aload_n 0, 1) := by decide +kernel
theorem dX12_isOfHead_37 : decode cX12_isOfHead 37 = .ok (.getfield 49, 3) := by decide +kernel
theorem dX12_isOfHead_40 : decode cX12_isOfHead 40 = .ok (.iconst 4, 1) := by decide +kernel
theorem dX12_isOfHead_41 : decode cX12_isOfHead 41 = .ok (.iload_n 3, 1) := by decide +kernel
theorem dX12_isOfHead_42 : decode cX12_isOfHead 42 = .ok (.imul, 1) := by decide +kernel
theorem dX12_isOfHead_43 : decode cX12_isOfHead 43 = .ok (.iconst 1, 1) := by decide +kernel
theorem dX12_isOfHead_44 : decode cX12_isOfHead 44 = .ok (.iadd, 1) := by decide +kernel
theorem dX12_isOfHead_45 : decode cX12_isOfHead 45 = .ok (.iaload, 1) := by decide +kernel
theorem dX12_isOfHead_46 : decode cX12_isOfHead 46 = .ok (.iload_n 1, 1) := by decide +kernel
theorem dX12_isOfHead_47 : decode cX12_isOfHead 47 = .ok (.if_icmp .eq 17, 3) := by decide +kernel
theorem dX12_isOfHead_50 : decode cX12_isOfHead 50 = .ok (.aload_n 0, 1) := by decide +kernel
theorem dX12_isOfHead_51 : decode cX12_isOfHead 51 = .ok (.getfield 49, 3) := by decide +kernel
theorem dX12_isOfHead_54 : decode cX12_isOfHead 54 = .ok (.iconst 4, 1) := by decide +kernel
theorem dX12_isOfHead_55 : decode cX12_isOfHead 55 = .ok (.iload_n 3, 1) := by decide +kernel
theorem dX12_isOfHead_56 : decode cX12_isOfHead 56 = .ok (.imul, 1) := by decide +kernel
theorem dX12_isOfHead_57 : decode cX12_isOfHead 57 = .ok (.iconst 2, 1) := by decide +kernel
theorem dX12_isOfHead_58 : decode cX12_isOfHead 58 = .ok (.iadd, 1) := by decide +kernel
theorem dX12_isOfHead_59 : decode cX12_isOfHead 59 = .ok (.iaload, 1) := by decide +kernel
theorem dX12_isOfHead_60 : decode cX12_isOfHead 60 = .ok (.iload_n 1, 1) := by decide +kernel
theorem dX12_isOfHead_61 : decode cX12_isOfHead 61 = .ok (.if_icmp .ne 7, 3) := by decide +kernel
theorem dX12_isOfHead_64 : decode cX12_isOfHead 64 = .ok (.iconst 1, 1) := by decide +kernel
theorem dX12_isOfHead_65 : decode cX12_isOfHead 65 = .ok (.goto 4, 3) := by decide +kernel
theorem dX12_isOfHead_68 : decode cX12_isOfHead 68 = .ok (.iconst 0, 1) := by decide +kernel
theorem dX12_isOfHead_69 : decode cX12_isOfHead 69 = .ok (.ior, 1) := by decide +kernel
theorem dX12_isOfHead_70 : decode cX12_isOfHead 70 = .ok (.istore_n 2, 1) := by decide +kernel
theorem dX12_isOfHead_71 : decode cX12_isOfHead 71 = .ok (.iinc 3 1, 3) := by decide +kernel
theorem dX12_isOfHead_74 : decode cX12_isOfHead 74 = .ok (.goto (-67), 3) := by decide +kernel
theorem dX12_isOfHead_77 : decode cX12_isOfHead 77 = .ok (.iload_n 2, 1) := by decide +kernel
theorem dX12_isOfHead_78 : decode cX12_isOfHead 78 = .ok (.ireturn, 1) := by decide +kernel
theorem dX12_guard_0 : decode cX12_guard 0 = .ok (.aload_n 0, 1) := by decide +kernel
theorem dX12_guard_1 : decode cX12_guard 1 = .ok (.iconst 0, 1) := by decide +kernel
theorem dX12_guard_2 : decode cX12_guard 2 = .ok (.putfield 118, 3) := by decide +kernel
theorem dX12_guard_5 : decode cX12_guard 5 = .ok (.iload_n 1, 1) := by decide +kernel
theorem dX12_guard_6 : decode cX12_guard 6 = .ok (.invokestatic 228, 3) := by decide +kernel
theorem dX12_guard_9 : decode cX12_guard 9 = .ok (.ifCond .eq 24, 3) := by decide +kernel
theorem dX12_guard_12 : decode cX12_guard 12 = .ok (.aload_n 0, 1) := by decide +kernel
theorem dX12_guard_13 : decode cX12_guard 13 = .ok (.iload_n 2, 1) := by decide +kernel
theorem dX12_guard_14 : decode cX12_guard 14 = .ok (.invokevirtual 249, 3) := by decide +kernel
theorem dX12_guard_17 : decode cX12_guard 17 = .ok (.ifCond .eq 16, 3) := by decide +kernel
theorem dX12_guard_20 : decode cX12_guard 20 = .ok (.iload_n 1, 1) := by decide +kernel
theorem dX12_guard_21 : decode cX12_guard 21 = .ok (.iconst 3, 1) := by decide +kernel
theorem dX12_guard_22 : decode cX12_guard 22 = .ok (.if_icmp .eq 18, 3) := by decide +kernel
theorem dX12_guard_25 : decode cX12_guard 25 = .ok (.aload_n 0, 1) := by decide +kernel
theorem dX12_guard_26 : decode cX12_guard 26 = .ok (.iload_n 3, 1) := by decide +kernel
theorem dX12_guard_27 : decode cX12_guard 27 = .ok (.invokevirtual 249, 3) := by decide +kernel
theorem dX12_guard_30 : decode cX12_guard 30 = .ok (.ifCond .ne 10, 3) := by decide +kernel
theorem dX12_guard_33 : decode cX12_guard 33 = .ok (.aload_n 0, 1) := by decide +kernel
theorem dX12_guard_34 : decode cX12_guard 34 = .ok (.iconst 1, 1) := by decide +kernel
theorem dX12_guard_35 : decode cX12_guard 35 = .ok (.putfield 118, 3) := by decide +kernel
theorem dX12_guard_38 : decode cX12_guard 38 = .ok (.iconst 0, 1) := by decide +kernel
theorem dX12_guard_39 : decode cX12_guard 39 = .ok (.ireturn, 1) := by decide +kernel
theorem dX12_guard_40 : decode cX12_guard 40 = .ok (.aload_n 0, 1) := by decide +kernel
theorem dX12_guard_41 : decode cX12_guard 41 = .ok (.getfield 240, 3) := by decide +kernel
theorem dX12_guard_44 : decode cX12_guard 44 = .ok (.ifCond .eq 20, 3) := by decide +kernel
theorem dX12_guard_47 : decode cX12_guard 47 = .ok (.aload_n 0, 1) := by decide +kernel
theorem dX12_guard_48 : decode cX12_guard 48 = .ok (.getfield 52, 3) := by decide +kernel
theorem dX12_guard_51 : decode cX12_guard 51 = .ok (.iconst 0, 1) := by decide +kernel
theorem dX12_guard_52 : decode cX12_guard 52 = .ok (.iaload, 1) := by decide +kernel
theorem dX12_guard_53 : decode cX12_guard 53 = .ok (.iconst (-1), 1) := by decide +kernel
theorem dX12_guard_54 : decode cX12_guard 54 = .ok (.if_icmp .ne 10, 3) := by decide +kernel
theorem dX12_guard_57 : decode cX12_guard 57 = .ok (.aload_n 0, 1) := by decide +kernel
theorem dX12_guard_58 : decode cX12_guard 58 = .ok (.getfield 243, 3) := by decide +kernel
theorem dX12_guard_61 : decode cX12_guard 61 = .ok (.ifCond .le 10, 3) := by decide +kernel
theorem dX12_guard_64 : decode cX12_guard 64 = .ok (.aload_n 0, 1) := by decide +kernel
theorem dX12_guard_65 : decode cX12_guard 65 = .ok (.iconst 2, 1) := by decide +kernel
theorem dX12_guard_66 : decode cX12_guard 66 = .ok (.putfield 118, 3) := by decide +kernel
theorem dX12_guard_69 : decode cX12_guard 69 = .ok (.iconst 0, 1) := by decide +kernel
theorem dX12_guard_70 : decode cX12_guard 70 = .ok (.ireturn, 1) := by decide +kernel
theorem dX12_guard_71 : decode cX12_guard 71 = .ok (.aload_n 0, 1) := by decide +kernel
theorem dX12_guard_72 : decode cX12_guard 72 = .ok (.getfield 52, 3) := by decide +kernel
theorem dX12_guard_75 : decode cX12_guard 75 = .ok (.iconst 0, 1) := by decide +kernel
theorem dX12_guard_76 : decode cX12_guard 76 = .ok (.iload_n 1, 1) := by decide +kernel
theorem dX12_guard_77 : decode cX12_guard 77 = .ok (.iastore, 1) := by decide +kernel
theorem dX12_guard_78 : decode cX12_guard 78 = .ok (.aload_n 0, 1) := by decide +kernel
theorem dX12_guard_79 : decode cX12_guard 79 = .ok (.getfield 52, 3) := by decide +kernel
theorem dX12_guard_82 : decode cX12_guard 82 = .ok (.iconst 1, 1) := by decide +kernel
theorem dX12_guard_83 : decode cX12_guard 83 = .ok (.iload_n 2, 1) := by decide +kernel
theorem dX12_guard_84 : decode cX12_guard 84 = .ok (.iastore, 1) := by decide +kernel
theorem dX12_guard_85 : decode cX12_guard 85 = .ok (.aload_n 0, 1) := by decide +kernel
theorem dX12_guard_86 : decode cX12_guard 86 = .ok (.getfield 52, 3) := by decide +kernel
theorem dX12_guard_89 : decode cX12_guard 89 = .ok (.iconst 2, 1) := by decide +kernel
theorem dX12_guard_90 : decode cX12_guard 90 = .ok (.iload_n 3, 1) := by decide +kernel
theorem dX12_guard_91 : decode cX12_guard 91 = .ok (.iastore, 1) := by decide +kernel
theorem dX12_guard_92 : decode cX12_guard 92 = .ok (.iconst 1, 1) := by decide +kernel
theorem dX12_guard_93 : decode cX12_guard 93 = .ok (.ireturn, 1) := by decide +kernel
theorem dX12_body_0 : decode cX12_body 0 = .ok (.aload_n 0, 1) := by decide +kernel
theorem dX12_body_1 : decode cX12_body 1 = .ok (.iconst 0, 1) := by decide +kernel
theorem dX12_body_2 : decode cX12_body 2 = .ok (.putfield 118, 3) := by decide +kernel
theorem dX12_body_5 : decode cX12_body 5 = .ok (.iload_n 1, 1) := by decide +kernel
theorem dX12_body_6 : decode cX12_body 6 = .ok (.iconst (-1), 1) := by decide +kernel
theorem dX12_body_7 : decode cX12_body 7 = .ok (.iconst 5, 1) := by decide +kernel
theorem dX12_body_8 : decode cX12_body 8 = .ok (.invokestatic 122, 3) := by decide +kernel
theorem dX12_body_11 : decode cX12_body 11 = .ok (.ifCond .eq 19, 3) := by decide +kernel
theorem dX12_body_14 : decode cX12_body 14 = .ok (.aload_n 0, 1) := by decide +kernel
theorem dX12_body_15 : decode cX12_body 15 = .ok (.iload_n 2, 1) := by decide +kernel
theorem dX12_body_16 : decode cX12_body 16 = .ok (.invokevirtual 249, 3) := by decide +kernel
theorem dX12_body_19 : decode cX12_body 19 = .ok (.ifCond .eq 11, 3) := by decide +kernel
theorem dX12_body_22 : decode cX12_body 22 = .ok (.aload_n 0, 1) := by decide +kernel
theorem dX12_body_23 : decode cX12_body 23 = .ok (.iload_n 3, 1) := by decide +kernel
theorem dX12_body_24 : decode cX12_body 24 = .ok (.invokevirtual 249, 3) := by decide +kernel
theorem dX12_body_27 : decode cX12_body 27 = .ok (.ifCond .ne 9, 3) := by decide +kernel
theorem dX12_body_30 : decode cX12_body 30 = .ok (.aload_n 0, 1) := by decide +kernel
theorem dX12_body_31 : decode cX12_body 31 = .ok (.iconst 1, 1) := by decide +kernel
theorem dX12_body_32 : decode cX12_body 32 = .ok (.invokevirtual 137, 3) := by decide +kernel
theorem dX12_body_35 : decode cX12_body 35 = .ok (.ireturn, 1) := by decide +kernel
theorem dX12_body_36 : decode cX12_body 36 = .ok (.aload_n 0, 1) := by decide +kernel
theorem dX12_body_37 : decode cX12_body 37 = .ok (.getfield 240, 3) := by decide +kernel
theorem dX12_body_40 : decode cX12_body 40 = .ok (.ifCond .eq 11, 3) := by decide +kernel
theorem dX12_body_43 : decode cX12_body 43 = .ok (.aload_n 0, 1) := by decide +kernel
theorem dX12_body_44 : decode cX12_body 44 = .ok (.getfield 243, 3) := by decide +kernel
theorem dX12_body_47 : decode cX12_body 47 = .ok (.iconst 2, 1) := by decide +kernel
theorem dX12_body_48 : decode cX12_body 48 = .ok (.if_icmp .ne 9, 3) := by decide +kernel
theorem dX12_body_51 : decode cX12_body 51 = .ok (.aload_n 0, 1) := by decide +kernel
theorem dX12_body_52 : decode cX12_body 52 = .ok (.iconst 2, 1) := by decide +kernel
theorem dX12_body_53 : decode cX12_body 53 = .ok (.invokevirtual 137, 3) := by decide +kernel
theorem dX12_body_56 : decode cX12_body 56 = .ok (.ireturn, 1) := by decide +kernel
theorem dX12_body_57 : decode cX12_body 57 = .ok (.aload_n 0, 1) := by decide +kernel
theorem dX12_body_58 : decode cX12_body 58 = .ok (.getfield 55, 3) := by decide +kernel
theorem dX12_body_61 : decode cX12_body 61 = .ok (.iconst 3, 1) := by decide +kernel
theorem dX12_body_62 : decode cX12_body 62 = .ok (.aload_n 0, 1) := by decide +kernel
theorem dX12_body_63 : decode cX12_body 63 = .ok (.getfield 243, 3) := by decide +kernel
theorem dX12_body_66 : decode cX12_body 66 = .ok (.imul, 1) := by decide +kernel
theorem dX12_body_67 : decode cX12_body 67 = .ok (.iload_n 1, 1) := by decide +kernel
theorem dX12_body_68 : decode cX12_body 68 = .ok (.iastore, 1) := by decide +kernel
theorem dX12_body_69 : decode cX12_body 69 = .ok (.aload_n 0, 1) := by decide +kernel
theorem dX12_body_70 : decode cX12_body 70 = .ok (.getfield 55, 3) := by decide +kernel
theorem dX12_body_73 : decode cX12_body 73 = .ok (.iconst 3, 1) := by decide +kernel
theorem dX12_body_74 : decode cX12_body 74 = .ok (.aload_n 0, 1) := by decide +kernel
theorem dX12_body_75 : decode cX12_body 75 = .ok (.getfield 243, 3) := by decide +kernel
theorem dX12_body_78 : decode cX12_body 78 = .ok (.imul, 1) := by decide +kernel
theorem dX12_body_79 : decode cX12_body 79 = .ok (.iconst 1, 1) := by decide +kernel
theorem dX12_body_80 : decode cX12_body 80 = .ok (.iadd, 1) := by decide +kernel
theorem dX12_body_81 : decode cX12_body 81 = .ok (.iload_n 2, 1) := by decide +kernel
theorem dX12_body_82 : decode cX12_body 82 = .ok (.iastore, 1) := by decide +kernel
theorem dX12_body_83 : decode cX12_body 83 = .ok (.aload_n 0, 1) := by decide +kernel
theorem dX12_body_84 : decode cX12_body 84 = .ok (.getfield 55, 3) := by decide +kernel
theorem dX12_body_87 : decode cX12_body 87 = .ok (.iconst 3, 1) := by decide +kernel
theorem dX12_body_88 : decode cX12_body 88 = .ok (.aload_n 0, 1) := by decide +kernel
theorem dX12_body_89 : decode cX12_body 89 = .ok (.getfield 243, 3) := by decide +kernel
theorem dX12_body_92 : decode cX12_body 92 = .ok (.imul, 1) := by decide +kernel
theorem dX12_body_93 : decode cX12_body 93 = .ok (.iconst 2, 1) := by decide +kernel
theorem dX12_body_94 : decode cX12_body 94 = .ok (.iadd, 1) := by decide +kernel
theorem dX12_body_95 : decode cX12_body 95 = .ok (.iload_n 3, 1) := by decide +kernel
theorem dX12_body_96 : decode cX12_body 96 = .ok (.iastore, 1) := by decide +kernel
theorem dX12_body_97 : decode cX12_body 97 = .ok (.aload_n 0, 1) := by decide +kernel
theorem dX12_body_98 : decode cX12_body 98 = .ok (.dup, 1) := by decide +kernel
theorem dX12_body_99 : decode cX12_body 99 = .ok (.getfield 243, 3) := by decide +kernel
theorem dX12_body_102 : decode cX12_body 102 = .ok (.iconst 1, 1) := by decide +kernel
theorem dX12_body_103 : decode cX12_body 103 = .ok (.iadd, 1) := by decide +kernel
theorem dX12_body_104 : decode cX12_body 104 = .ok (.putfield 243, 3) := by decide +kernel
theorem dX12_body_107 : decode cX12_body 107 = .ok (.aload_n 0, 1) := by decide +kernel
theorem dX12_body_108 : decode cX12_body 108 = .ok (.getfield 243, 3) := by decide +kernel
theorem dX12_body_111 : decode cX12_body 111 = .ok (.ireturn, 1) := by decide +kernel
theorem dX12_rule_0 : decode cX12_rule 0 = .ok (.aload_n 0, 1) := by decide +kernel
theorem dX12_rule_1 : decode cX12_rule 1 = .ok (.iconst 0, 1) := by decide +kernel
theorem dX12_rule_2 : decode cX12_rule 2 = .ok (.putfield 118, 3) := by decide +kernel
theorem dX12_rule_5 : decode cX12_rule 5 = .ok (.aload_n 0, 1) := by decide +kernel
theorem dX12_rule_6 : decode cX12_rule 6 = .ok (.getfield 240, 3) := by decide +kernel
theorem dX12_rule_9 : decode cX12_rule 9 = .ok (.ifCond .eq 19, 3) := by decide +kernel
theorem dX12_rule_12 : decode cX12_rule 12 = .ok (.aload_n 0, 1) := by decide +kernel
theorem dX12_rule_13 : decode cX12_rule 13 = .ok (.getfield 243, 3) := by decide +kernel
theorem dX12_rule_16 : decode cX12_rule 16 = .ok (.ifCond .eq 12, 3) := by decide +kernel
theorem dX12_rule_19 : decode cX12_rule 19 = .ok (.aload_n 0, 1) := by decide +kernel
theorem dX12_rule_20 : decode cX12_rule 20 = .ok (.getfield 187, 3) := by decide +kernel
theorem dX12_rule_23 : decode cX12_rule 23 = .ok (.bipush 8, 2) := by decide +kernel
theorem dX12_rule_25 : decode cX12_rule 25 = .ok (.if_icmp .ne 9, 3) := by decide +kernel
theorem dX12_rule_28 : decode cX12_rule 28 = .ok (.aload_n 0, 1) := by decide +kernel
theorem dX12_rule_29 : decode cX12_rule 29 = .ok (.iconst 1, 1) := by decide +kernel
theorem dX12_rule_30 : decode cX12_rule 30 = .ok (.invokevirtual 137, 3) := by decide +kernel
theorem dX12_rule_33 : decode cX12_rule 33 = .ok (.ireturn, 1) := by decide +kernel
theorem dX12_rule_34 : decode cX12_rule 34 = .ok (.aload_n 0, 1) := by decide +kernel
theorem dX12_rule_35 : decode cX12_rule 35 = .ok (.getfield 187, 3) := by decide +kernel
theorem dX12_rule_38 : decode cX12_rule 38 = .ok (.istore_n 1, 1) := by decide +kernel
theorem dX12_rule_39 : decode cX12_rule 39 = .ok (.aload_n 0, 1) := by decide +kernel
theorem dX12_rule_40 : decode cX12_rule 40 = .ok (.getfield 34, 3) := by decide +kernel
theorem dX12_rule_43 : decode cX12_rule 43 = .ok (.iload_n 1, 1) := by decide +kernel
theorem dX12_rule_44 : decode cX12_rule 44 = .ok (.aload_n 0, 1) := by decide +kernel
theorem dX12_rule_45 : decode cX12_rule 45 = .ok (.getfield 234, 3) := by decide +kernel
theorem dX12_rule_48 : decode cX12_rule 48 = .ok (.iastore, 1) := by decide +kernel
theorem dX12_rule_49 : decode cX12_rule 49 = .ok (.aload_n 0, 1) := by decide +kernel
theorem dX12_rule_50 : decode cX12_rule 50 = .ok (.getfield 43, 3) := by decide +kernel
theorem dX12_rule_53 : decode cX12_rule 53 = .ok (.iload_n 1, 1) := by decide +kernel
theorem dX12_rule_54 : decode cX12_rule 54 = .ok (.aload_n 0, 1) := by decide +kernel
theorem dX12_rule_55 : decode cX12_rule 55 = .ok (.getfield 243, 3) := by decide +kernel
theorem dX12_rule_58 : decode cX12_rule 58 = .ok (.iastore, 1) := by decide +kernel
theorem dX12_rule_59 : decode cX12_rule 59 = .ok (.iconst 0, 1) := by decide +kernel
theorem dX12_rule_60 : decode cX12_rule 60 = .ok (.istore_n 2, 1) := by decide +kernel
theorem dX12_rule_61 : decode cX12_rule 61 = .ok (.iload_n 2, 1) := by decide +kernel
theorem dX12_rule_62 : decode cX12_rule 62 = .ok (.bipush 8, 2) := by decide +kernel
theorem dX12_rule_64 : decode cX12_rule 64 = .ok (.if_icmp .ge 26, 3) := by decide +kernel
theorem dX12_rule_67 : decode cX12_rule 67 = .ok (.aload_n 0, 1) := by decide +kernel
theorem dX12_rule_68 : decode cX12_rule 68 = .ok (.getfield 37, 3) := by decide +kernel
theorem dX12_rule_71 : decode cX12_rule 71 = .ok (.bipush 8, 2) := by decide +kernel
theorem dX12_rule_73 : decode cX12_rule 73 = .ok (.iload_n 1, 1) := by decide +kernel
theorem dX12_rule_74 : decode cX12_rule 74 = .ok (.imul, 1) := by decide +kernel
theorem dX12_rule_75 : decode cX12_rule 75 = .ok (.iload_n 2, 1) := by decide +kernel
theorem dX12_rule_76 : decode cX12_rule 76 = .ok (.iadd, 1) := by decide +kernel
theorem dX12_rule_77 : decode cX12_rule 77 = .ok (.aload_n 0, 1) := by decide +kernel
theorem dX12_rule_78 : decode cX12_rule 78 = .ok (.getfield 49, 3) := by decide +kernel
theorem dX12_rule_81 : decode cX12_rule 81 = .ok (.iload_n 2, 1) := by decide +kernel
theorem dX12_rule_82 : decode cX12_rule 82 = .ok (.iaload, 1) := by decide +kernel
theorem dX12_rule_83 : decode cX12_rule 83 = .ok (.iastore, 1) := by decide +kernel
theorem dX12_rule_84 : decode cX12_rule 84 = .ok (.iinc 2 1, 3) := by decide +kernel
theorem dX12_rule_87 : decode cX12_rule 87 = .ok (.goto (-26), 3) := by decide +kernel
theorem dX12_rule_90 : decode cX12_rule 90 = .ok (.iconst 0, 1) := by decide +kernel
theorem dX12_rule_91 : decode cX12_rule 91 = .ok (.istore_n 2, 1) := by decide +kernel
theorem dX12_rule_92 : decode cX12_rule 92 = .ok (.iload_n 2, 1) := by decide +kernel
theorem dX12_rule_93 : decode cX12_rule 93 = .ok (.iconst 3, 1) := by decide +kernel
theorem dX12_rule_94 : decode cX12_rule 94 = .ok (.if_icmp .ge 25, 3) := by decide +kernel
theorem dX12_rule_97 : decode cX12_rule 97 = .ok (.aload_n 0, 1) := by decide +kernel
theorem dX12_rule_98 : decode cX12_rule 98 = .ok (.getfield 40, 3) := by decide +kernel
theorem dX12_rule_101 : decode cX12_rule 101 = .ok (.iconst 3, 1) := by decide +kernel
theorem dX12_rule_102 : decode cX12_rule 102 = .ok (.iload_n 1, 1) := by decide +kernel
theorem dX12_rule_103 : decode cX12_rule 103 = .ok (.imul, 1) := by decide +kernel
theorem dX12_rule_104 : decode cX12_rule 104 = .ok (.iload_n 2, 1) := by decide +kernel
theorem dX12_rule_105 : decode cX12_rule 105 = .ok (.iadd, 1) := by decide +kernel
theorem dX12_rule_106 : decode cX12_rule 106 = .ok (.aload_n 0, 1) := by decide +kernel
theorem dX12_rule_107 : decode cX12_rule 107 = .ok (.getfield 52, 3) := by decide +kernel
theorem dX12_rule_110 : decode cX12_rule 110 = .ok (.iload_n 2, 1) := by decide +kernel
theorem dX12_rule_111 : decode cX12_rule 111 = .ok (.iaload, 1) := by decide +kernel
theorem dX12_rule_112 : decode cX12_rule 112 = .ok (.iastore, 1) := by decide +kernel
theorem dX12_rule_113 : decode cX12_rule 113 = .ok (.iinc 2 1, 3) := by decide +kernel
theorem dX12_rule_116 : decode cX12_rule 116 = .ok (.goto (-24), 3) := by decide +kernel
theorem dX12_rule_119 : decode cX12_rule 119 = .ok (.iconst 0, 1) := by decide +kernel
theorem dX12_rule_120 : decode cX12_rule 120 = .ok (.istore_n 2, 1) := by decide +kernel
theorem dX12_rule_121 : decode cX12_rule 121 = .ok (.iload_n 2, 1) := by decide +kernel
theorem dX12_rule_122 : decode cX12_rule 122 = .ok (.bipush 6, 2) := by decide +kernel
theorem dX12_rule_124 : decode cX12_rule 124 = .ok (.if_icmp .ge 26, 3) := by decide +kernel
theorem dX12_rule_127 : decode cX12_rule 127 = .ok (.aload_n 0, 1) := by decide +kernel
theorem dX12_rule_128 : decode cX12_rule 128 = .ok (.getfield 46, 3) := by decide +kernel
theorem dX12_rule_131 : decode cX12_rule 131 = .ok (.bipush 6, 2) := by decide +kernel
theorem dX12_rule_133 : decode cX12_rule 133 = .ok (.iload_n 1, 1) := by decide +kernel
theorem dX12_rule_134 : decode cX12_rule 134 = .ok (.imul, 1) := by decide +kernel
theorem dX12_rule_135 : decode cX12_rule 135 = .ok (.iload_n 2, 1) := by decide +kernel
theorem dX12_rule_136 : decode cX12_rule 136 = .ok (.iadd, 1) := by decide +kernel
theorem dX12_rule_137 : decode cX12_rule 137 = .ok (.aload_n 0, 1) := by decide +kernel
theorem dX12_rule_138 : decode cX12_rule 138 = .ok (.getfield 55, 3) := by decide +kernel
theorem dX12_rule_141 : decode cX12_rule 141 = .ok (.iload_n 2, 1) := by decide +kernel
theorem dX12_rule_142 : decode cX12_rule 142 = .ok (.iaload, 1) := by decide +kernel
theorem dX12_rule_143 : decode cX12_rule 143 = .ok (.iastore, 1) := by decide +kernel
theorem dX12_rule_144 : decode cX12_rule 144 = .ok (.iinc 2 1, 3) := by decide +kernel
theorem dX12_rule_147 : decode cX12_rule 147 = .ok (.goto (-26), 3) := by decide +kernel
theorem dX12_rule_150 : decode cX12_rule 150 = .ok (.aload_n 0, 1) := by decide +kernel
theorem dX12_rule_151 : decode cX12_rule 151 = .ok (.iconst 0, 1) := by decide +kernel
theorem dX12_rule_152 : decode cX12_rule 152 = .ok (.putfield 240, 3) := by decide +kernel
theorem dX12_rule_155 : decode cX12_rule 155 = .ok (.aload_n 0, 1) := by decide +kernel
theorem dX12_rule_156 : decode cX12_rule 156 = .ok (.dup, 1) := by decide +kernel
theorem dX12_rule_157 : decode cX12_rule 157 = .ok (.getfield 187, 3) := by decide +kernel
theorem dX12_rule_160 : decode cX12_rule 160 = .ok (.iconst 1, 1) := by decide +kernel
theorem dX12_rule_161 : decode cX12_rule 161 = .ok (.iadd, 1) := by decide +kernel
theorem dX12_rule_162 : decode cX12_rule 162 = .ok (.putfield 187, 3) := by decide +kernel
theorem dX12_rule_165 : decode cX12_rule 165 = .ok (.iload_n 1, 1) := by decide +kernel
theorem dX12_rule_166 : decode cX12_rule 166 = .ok (.ireturn, 1) := by decide +kernel
theorem dX12_look_0 : decode cX12_look 0 = .ok (.iload_n 2, 1) := by decide +kernel
theorem dX12_look_1 : decode cX12_look 1 = .ok (.sipush 200, 3) := by decide +kernel
theorem dX12_look_4 : decode cX12_look 4 = .ok (.sipush 203, 3) := by decide +kernel
theorem dX12_look_7 : decode cX12_look 7 = .ok (.invokestatic 122, 3) := by decide +kernel
theorem dX12_look_10 : decode cX12_look 10 = .ok (.ifCond .eq 23, 3) := by decide +kernel
theorem dX12_look_13 : decode cX12_look 13 = .ok (.aload_n 0, 1) := by decide +kernel
theorem dX12_look_14 : decode cX12_look 14 = .ok (.getfield 58, 3) := by decide +kernel
theorem dX12_look_17 : decode cX12_look 17 = .ok (.bipush 9, 2) := by decide +kernel
theorem dX12_look_19 : decode cX12_look 19 = .ok (.iload_n 1, 1) := by decide +kernel
theorem dX12_look_20 : decode cX12_look 20 = .ok (.imul, 1) := by decide +kernel
theorem dX12_look_21 : decode cX12_look 21 = .ok (.iconst 1, 1) := by decide +kernel
theorem dX12_look_22 : decode cX12_look 22 = .ok (.iadd, 1) := by decide +kernel
theorem dX12_look_23 : decode cX12_look 23 = .ok (.iload_n 2, 1) := by decide +kernel
theorem dX12_look_24 : decode cX12_look 24 = .ok (.iadd, 1) := by decide +kernel
theorem dX12_look_25 : decode cX12_look 25 = .ok (.sipush 200, 3) := by decide +kernel
theorem dX12_look_28 : decode cX12_look 28 = .ok (.isub, 1) := by decide +kernel
theorem dX12_look_29 : decode cX12_look 29 = .ok (.iaload, 1) := by decide +kernel
theorem dX12_look_30 : decode cX12_look 30 = .ok (.goto 4, 3) := by decide +kernel
theorem dX12_look_33 : decode cX12_look 33 = .ok (.iload_n 2, 1) := by decide +kernel
theorem dX12_look_34 : decode cX12_look 34 = .ok (.ireturn, 1) := by decide +kernel
theorem dX12_another_0 : decode cX12_another 0 = .ok (.aload_n 0, 1) := by decide +kernel
theorem dX12_another_1 : decode cX12_another 1 = .ok (.getfield 252, 3) := by decide +kernel
theorem dX12_another_4 : decode cX12_another 4 = .ok (.istore_n 3, 1) := by decide +kernel
theorem dX12_another_5 : decode cX12_another 5 = .ok (.aload_n 0, 1) := by decide +kernel
theorem dX12_another_6 : decode cX12_another 6 = .ok (.dup, 1) := by decide +kernel
theorem dX12_another_7 : decode cX12_another 7 = .ok (.getfield 252, 3) := by decide +kernel
theorem dX12_another_10 : decode cX12_another 10 = .ok (.iconst 1, 1) := by decide +kernel
theorem dX12_another_11 : decode cX12_another 11 = .ok (.iadd, 1) := by decide +kernel
theorem dX12_another_12 : decode cX12_another 12 = .ok (.putfield 252, 3) := by decide +kernel
theorem dX12_another_15 : decode cX12_another 15 = .ok (.iconst 1, 1) := by decide +kernel
theorem dX12_another_16 : decode cX12_another 16 = .ok (.istore 4, 2) := by decide +kernel
theorem dX12_another_18 : decode cX12_another 18 = .ok (.iload 4, 2) := by decide +kernel
theorem dX12_another_20 : decode cX12_another 20 = .ok (.bipush 9, 2) := by decide +kernel
theorem dX12_another_22 : decode cX12_another 22 = .ok (.if_icmp .ge 33, 3) := by decide +kernel
theorem dX12_another_25 : decode cX12_another 25 = .ok (.aload_n 0, 1) := by decide +kernel
theorem dX12_another_26 : decode cX12_another 26 = .ok (.getfield 58, 3) := by decide +kernel
theorem dX12_another_29 : decode cX12_another 29 = .ok (.bipush 9, 2) := by decide +kernel
theorem dX12_another_31 : decode cX12_another 31 = .ok (.iload_n 3, 1) := by decide +kernel
theorem dX12_another_32 : decode cX12_another 32 = .ok (.imul, 1) := by decide +kernel
theorem dX12_another_33 : decode cX12_another 33 = .ok (.iload 4, 2) := by decide +kernel
theorem dX12_another_35 : decode cX12_another 35 = .ok (.iadd, 1) := by decide +kernel
theorem dX12_another_36 : decode cX12_another 36 = .ok (.aload_n 0, 1) := by decide +kernel
theorem dX12_another_37 : decode cX12_another 37 = .ok (.getfield 58, 3) := by decide +kernel
theorem dX12_another_40 : decode cX12_another 40 = .ok (.bipush 9, 2) := by decide +kernel
theorem dX12_another_42 : decode cX12_another 42 = .ok (.iload_n 1, 1) := by decide +kernel
theorem dX12_another_43 : decode cX12_another 43 = .ok (.imul, 1) := by decide +kernel
theorem dX12_another_44 : decode cX12_another 44 = .ok (.iload 4, 2) := by decide +kernel
theorem dX12_another_46 : decode cX12_another 46 = .ok (.iadd, 1) := by decide +kernel
theorem dX12_another_47 : decode cX12_another 47 = .ok (.iaload, 1) := by decide +kernel
theorem dX12_another_48 : decode cX12_another 48 = .ok (.iastore, 1) := by decide +kernel
theorem dX12_another_49 : decode cX12_another 49 = .ok (.iinc 4 1, 3) := by decide +kernel
theorem dX12_another_52 : decode cX12_another 52 = .ok (.goto (-34), 3) := by decide +kernel
theorem dX12_another_55 : decode cX12_another 55 = .ok (.aload_n 0, 1) := by decide +kernel
theorem dX12_another_56 : decode cX12_another 56 = .ok (.getfield 58, 3) := by decide +kernel
theorem dX12_another_59 : decode cX12_another 59 = .ok (.bipush 9, 2) := by decide +kernel
theorem dX12_another_61 : decode cX12_another 61 = .ok (.iload_n 3, 1) := by decide +kernel
theorem dX12_another_62 : decode cX12_another 62 = .ok (.imul, 1) := by decide +kernel
theorem dX12_another_63 : decode cX12_another 63 = .ok (.iload_n 2, 1) := by decide +kernel
theorem dX12_another_64 : decode cX12_another 64 = .ok (.iastore, 1) := by decide +kernel
theorem dX12_another_65 : decode cX12_another 65 = .ok (.iload_n 3, 1) := by decide +kernel
theorem dX12_another_66 : decode cX12_another 66 = .ok (.ireturn, 1) := by decide +kernel
theorem dX12_enqueue_0 : decode cX12_enqueue 0 = .ok (.aload_n 0, 1) := by decide +kernel
theorem dX12_enqueue_1 : decode cX12_enqueue 1 = .ok (.getfield 61, 3) := by decide +kernel
theorem dX12_enqueue_4 : decode cX12_enqueue 4 = .ok (.sipush 500, 3) := by decide +kernel
theorem dX12_enqueue_7 : decode cX12_enqueue 7 = .ok (.aload_n 0, 1) := by decide +kernel
theorem dX12_enqueue_8 : decode cX12_enqueue 8 = .ok (.getfield 255, 3) := by decide +kernel
theorem dX12_enqueue_11 : decode cX12_enqueue 11 = .ok (.imul, 1) := by decide +kernel
theorem dX12_enqueue_12 : decode cX12_enqueue 12 = .ok (.aload_n 0, 1) := by decide +kernel
theorem dX12_enqueue_13 : decode cX12_enqueue 13 = .ok (.getfield 64, 3) := by decide +kernel
theorem dX12_enqueue_16 : decode cX12_enqueue 16 = .ok (.aload_n 0, 1) := by decide +kernel
theorem dX12_enqueue_17 : decode cX12_enqueue 17 = .ok (.getfield 255, 3) := by decide +kernel
theorem dX12_enqueue_20 : decode cX12_enqueue 20 = .ok (.iaload, 1) := by decide +kernel
theorem dX12_enqueue_21 : decode cX12_enqueue 21 = .ok (.iadd, 1) := by decide +kernel
theorem dX12_enqueue_22 : decode cX12_enqueue 22 = .ok (.iload_n 1, 1) := by decide +kernel
theorem dX12_enqueue_23 : decode cX12_enqueue 23 = .ok (.iastore, 1) := by decide +kernel
theorem dX12_enqueue_24 : decode cX12_enqueue 24 = .ok (.aload_n 0, 1) := by decide +kernel
theorem dX12_enqueue_25 : decode cX12_enqueue 25 = .ok (.getfield 64, 3) := by decide +kernel
theorem dX12_enqueue_28 : decode cX12_enqueue 28 = .ok (.aload_n 0, 1) := by decide +kernel
theorem dX12_enqueue_29 : decode cX12_enqueue 29 = .ok (.getfield 255, 3) := by decide +kernel
theorem dX12_enqueue_32 : decode cX12_enqueue 32 = .ok (.dup2, 1) := by decide +kernel
theorem dX12_enqueue_33 : decode cX12_enqueue 33 = .ok (.iaload, 1) := by decide +kernel
theorem dX12_enqueue_34 : decode cX12_enqueue 34 = .ok (.iconst 1, 1) := by decide +kernel
theorem dX12_enqueue_35 : decode cX12_enqueue 35 = .ok (.iadd, 1) := by decide +kernel
theorem dX12_enqueue_36 : decode cX12_enqueue 36 = .ok (.iastore, 1) := by decide +kernel
theorem dX12_enqueue_37 : decode cX12_enqueue 37 = .ok (.return_, 1) := by decide +kernel
theorem dX12_forNext_0 : decode cX12_forNext 0 = .ok (.aload_n 0, 1) := by decide +kernel
theorem dX12_forNext_1 : decode cX12_forNext 1 = .ok (.getfield 79, 3) := by decide +kernel
theorem dX12_forNext_4 : decode cX12_forNext 4 = .ok (.sipush 500, 3) := by decide +kernel
theorem dX12_forNext_7 : decode cX12_forNext 7 = .ok (.aload_n 0, 1) := by decide +kernel
theorem dX12_forNext_8 : decode cX12_forNext 8 = .ok (.getfield 255, 3) := by decide +kernel
theorem dX12_forNext_11 : decode cX12_forNext 11 = .ok (.imul, 1) := by decide +kernel
theorem dX12_forNext_12 : decode cX12_forNext 12 = .ok (.aload_n 0, 1) := by decide +kernel
theorem dX12_forNext_13 : decode cX12_forNext 13 = .ok (.getfield 82, 3) := by decide +kernel
theorem dX12_forNext_16 : decode cX12_forNext 16 = .ok (.aload_n 0, 1) := by decide +kernel
theorem dX12_forNext_17 : decode cX12_forNext 17 = .ok (.getfield 255, 3) := by decide +kernel
theorem dX12_forNext_20 : decode cX12_forNext 20 = .ok (.iaload, 1) := by decide +kernel
theorem dX12_forNext_21 : decode cX12_forNext 21 = .ok (.iadd, 1) := by decide +kernel
theorem dX12_forNext_22 : decode cX12_forNext 22 = .ok (.iload_n 1, 1) := by decide +kernel
theorem dX12_forNext_23 : decode cX12_forNext 23 = .ok (.iastore, 1) := by decide +kernel
theorem dX12_forNext_24 : decode cX12_forNext 24 = .ok (.aload_n 0, 1) := by decide +kernel
theorem dX12_forNext_25 : decode cX12_forNext 25 = .ok (.getfield 82, 3) := by decide +kernel
theorem dX12_forNext_28 : decode cX12_forNext 28 = .ok (.aload_n 0, 1) := by decide +kernel
theorem dX12_forNext_29 : decode cX12_forNext 29 = .ok (.getfield 255, 3) := by decide +kernel
theorem dX12_forNext_32 : decode cX12_forNext 32 = .ok (.dup2, 1) := by decide +kernel
theorem dX12_forNext_33 : decode cX12_forNext 33 = .ok (.iaload, 1) := by decide +kernel
theorem dX12_forNext_34 : decode cX12_forNext 34 = .ok (.iconst 1, 1) := by decide +kernel
theorem dX12_forNext_35 : decode cX12_forNext 35 = .ok (.iadd, 1) := by decide +kernel
theorem dX12_forNext_36 : decode cX12_forNext 36 = .ok (.iastore, 1) := by decide +kernel
theorem dX12_forNext_37 : decode cX12_forNext 37 = .ok (.return_, 1) := by decide +kernel
theorem dX12_waitFor_0 : decode cX12_waitFor 0 = .ok (.aload_n 0, 1) := by decide +kernel
theorem dX12_waitFor_1 : decode cX12_waitFor 1 = .ok (.getfield 67, 3) := by decide +kernel
theorem dX12_waitFor_4 : decode cX12_waitFor 4 = .ok (.sipush 500, 3) := by decide +kernel
theorem dX12_waitFor_7 : decode cX12_waitFor 7 = .ok (.aload_n 0, 1) := by decide +kernel
theorem dX12_waitFor_8 : decode cX12_waitFor 8 = .ok (.getfield 255, 3) := by decide +kernel
theorem dX12_waitFor_11 : decode cX12_waitFor 11 = .ok (.imul, 1) := by decide +kernel
theorem dX12_waitFor_12 : decode cX12_waitFor 12 = .ok (.aload_n 0, 1) := by decide +kernel
theorem dX12_waitFor_13 : decode cX12_waitFor 13 = .ok (.getfield 70, 3) := by decide +kernel
theorem dX12_waitFor_16 : decode cX12_waitFor 16 = .ok (.aload_n 0, 1) := by decide +kernel
theorem dX12_waitFor_17 : decode cX12_waitFor 17 = .ok (.getfield 255, 3) := by decide +kernel
theorem dX12_waitFor_20 : decode cX12_waitFor 20 = .ok (.iaload, 1) := by decide +kernel
theorem dX12_waitFor_21 : decode cX12_waitFor 21 = .ok (.iadd, 1) := by decide +kernel
theorem dX12_waitFor_22 : decode cX12_waitFor 22 = .ok (.iload_n 1, 1) := by decide +kernel
theorem dX12_waitFor_23 : decode cX12_waitFor 23 = .ok (.iastore, 1) := by decide +kernel
theorem dX12_waitFor_24 : decode cX12_waitFor 24 = .ok (.aload_n 0, 1) := by decide +kernel
theorem dX12_waitFor_25 : decode cX12_waitFor 25 = .ok (.getfield 70, 3) := by decide +kernel
theorem dX12_waitFor_28 : decode cX12_waitFor 28 = .ok (.aload_n 0, 1) := by decide +kernel
theorem dX12_waitFor_29 : decode cX12_waitFor 29 = .ok (.getfield 255, 3) := by decide +kernel
theorem dX12_waitFor_32 : decode cX12_waitFor 32 = .ok (.dup2, 1) := by decide +kernel
theorem dX12_waitFor_33 : decode cX12_waitFor 33 = .ok (.iaload, 1) := by decide +kernel
theorem dX12_waitFor_34 : decode cX12_waitFor 34 = .ok (.iconst 1, 1) := by decide +kernel
theorem dX12_waitFor_35 : decode cX12_waitFor 35 = .ok (.iadd, 1) := by decide +kernel
theorem dX12_waitFor_36 : decode cX12_waitFor 36 = .ok (.iastore, 1) := by decide +kernel
theorem dX12_waitFor_37 : decode cX12_waitFor 37 = .ok (.return_, 1) := by decide +kernel
theorem dX12_holds_0 : decode cX12_holds 0 = .ok (.aload_n 0, 1) := by decide +kernel
theorem dX12_holds_1 : decode cX12_holds 1 = .ok (.getfield 19, 3) := by decide +kernel
theorem dX12_holds_4 : decode cX12_holds 4 = .ok (.iload_n 2, 1) := by decide +kernel
theorem dX12_holds_5 : decode cX12_holds 5 = .ok (.iaload, 1) := by decide +kernel
theorem dX12_holds_6 : decode cX12_holds 6 = .ok (.istore_n 3, 1) := by decide +kernel
theorem dX12_holds_7 : decode cX12_holds 7 = .ok (.aload_n 0, 1) := by decide +kernel
theorem dX12_holds_8 : decode cX12_holds 8 = .ok (.iload_n 3, 1) := by decide +kernel
theorem dX12_holds_9 : decode cX12_holds 9 = .ok (.aload_n 0, 1) := by decide +kernel
theorem dX12_holds_10 : decode cX12_holds 10 = .ok (.iload_n 1, 1) := by decide +kernel
theorem dX12_holds_11 : decode cX12_holds 11 = .ok (.aload_n 0, 1) := by decide +kernel
theorem dX12_holds_12 : decode cX12_holds 12 = .ok (.getfield 22, 3) := by decide +kernel
theorem dX12_holds_15 : decode cX12_holds 15 = .ok (.iload_n 2, 1) := by decide +kernel
theorem dX12_holds_16 : decode cX12_holds 16 = .ok (.iaload, 1) := by decide +kernel
theorem dX12_holds_17 : decode cX12_holds 17 = .ok (.invokevirtual 258, 3) := by decide +kernel
theorem dX12_holds_20 : decode cX12_holds 20 = .ok (.iload_n 3, 1) := by decide +kernel
theorem dX12_holds_21 : decode cX12_holds 21 = .ok (.iconst 3, 1) := by decide +kernel
theorem dX12_holds_22 : decode cX12_holds 22 = .ok (.if_icmp .ne 7, 3) := by decide +kernel
theorem dX12_holds_25 : decode cX12_holds 25 = .ok (.iconst 0, 1) := by decide +kernel
theorem dX12_holds_26 : decode cX12_holds 26 = .ok (.goto 14, 3) := by decide +kernel
theorem dX12_holds_29 : decode cX12_holds 29 = .ok (.aload_n 0, 1) := by decide +kernel
theorem dX12_holds_30 : decode cX12_holds 30 = .ok (.iload_n 1, 1) := by decide +kernel
theorem dX12_holds_31 : decode cX12_holds 31 = .ok (.aload_n 0, 1) := by decide +kernel
theorem dX12_holds_32 : decode cX12_holds 32 = .ok (.getfield 25, 3) := by decide +kernel
theorem dX12_holds_35 : decode cX12_holds 35 = .ok (.iload_n 2, 1) := by decide +kernel
theorem dX12_holds_36 : decode cX12_holds 36 = .ok (.iaload, 1) := by decide +kernel
theorem dX12_holds_37 : decode cX12_holds 37 = .ok (.invokevirtual 258, 3) := by decide +kernel
theorem dX12_holds_40 : decode cX12_holds 40 = .ok (.invokevirtual 175, 3) := by decide +kernel
theorem dX12_holds_43 : decode cX12_holds 43 = .ok (.ireturn, 1) := by decide +kernel
theorem dX12_goOn_0 : decode cX12_goOn 0 = .ok (.aload_n 0, 1) := by decide +kernel
theorem dX12_goOn_1 : decode cX12_goOn 1 = .ok (.iload_n 1, 1) := by decide +kernel
theorem dX12_goOn_2 : decode cX12_goOn 2 = .ok (.aload_n 0, 1) := by decide +kernel
theorem dX12_goOn_3 : decode cX12_goOn 3 = .ok (.getfield 28, 3) := by decide +kernel
theorem dX12_goOn_6 : decode cX12_goOn 6 = .ok (.iload_n 2, 1) := by decide +kernel
theorem dX12_goOn_7 : decode cX12_goOn 7 = .ok (.iaload, 1) := by decide +kernel
theorem dX12_goOn_8 : decode cX12_goOn 8 = .ok (.invokevirtual 261, 3) := by decide +kernel
theorem dX12_goOn_11 : decode cX12_goOn 11 = .ok (.istore_n 3, 1) := by decide +kernel
theorem dX12_goOn_12 : decode cX12_goOn 12 = .ok (.aload_n 0, 1) := by decide +kernel
theorem dX12_goOn_13 : decode cX12_goOn 13 = .ok (.getfield 19, 3) := by decide +kernel
theorem dX12_goOn_16 : decode cX12_goOn 16 = .ok (.iload_n 2, 1) := by decide +kernel
theorem dX12_goOn_17 : decode cX12_goOn 17 = .ok (.iaload, 1) := by decide +kernel
theorem dX12_goOn_18 : decode cX12_goOn 18 = .ok (.bipush 10, 2) := by decide +kernel
theorem dX12_goOn_20 : decode cX12_goOn 20 = .ok (.if_icmp .lt 115, 3) := by decide +kernel
theorem dX12_goOn_23 : decode cX12_goOn 23 = .ok (.aload_n 0, 1) := by decide +kernel
theorem dX12_goOn_24 : decode cX12_goOn 24 = .ok (.aload_n 0, 1) := by decide +kernel
theorem dX12_goOn_25 : decode cX12_goOn 25 = .ok (.getfield 19, 3) := by decide +kernel
theorem dX12_goOn_28 : decode cX12_goOn 28 = .ok (.iload_n 2, 1) := by decide +kernel
theorem dX12_goOn_29 : decode cX12_goOn 29 = .ok (.iaload, 1) := by decide +kernel
theorem dX12_goOn_30 : decode cX12_goOn 30 = .ok (.bipush 10, 2) := by decide +kernel
theorem dX12_goOn_32 : decode cX12_goOn 32 = .ok (.isub, 1) := by decide +kernel
theorem dX12_goOn_33 : decode cX12_goOn 33 = .ok (.aload_n 0, 1) := by decide +kernel
theorem dX12_goOn_34 : decode cX12_goOn 34 = .ok (.iload_n 1, 1) := by decide +kernel
theorem dX12_goOn_35 : decode cX12_goOn 35 = .ok (.aload_n 0, 1) := by decide +kernel
theorem dX12_goOn_36 : decode cX12_goOn 36 = .ok (.getfield 22, 3) := by decide +kernel
theorem dX12_goOn_39 : decode cX12_goOn 39 = .ok (.iload_n 2, 1) := by decide +kernel
theorem dX12_goOn_40 : decode cX12_goOn 40 = .ok (.iaload, 1) := by decide +kernel
theorem dX12_goOn_41 : decode cX12_goOn 41 = .ok (.invokevirtual 258, 3) := by decide +kernel
theorem dX12_goOn_44 : decode cX12_goOn 44 = .ok (.aload_n 0, 1) := by decide +kernel
theorem dX12_goOn_45 : decode cX12_goOn 45 = .ok (.iload_n 1, 1) := by decide +kernel
theorem dX12_goOn_46 : decode cX12_goOn 46 = .ok (.aload_n 0, 1) := by decide +kernel
theorem dX12_goOn_47 : decode cX12_goOn 47 = .ok (.getfield 25, 3) := by decide +kernel
theorem dX12_goOn_50 : decode cX12_goOn 50 = .ok (.iload_n 2, 1) := by decide +kernel
theorem dX12_goOn_51 : decode cX12_goOn 51 = .ok (.iaload, 1) := by decide +kernel
theorem dX12_goOn_52 : decode cX12_goOn 52 = .ok (.invokevirtual 258, 3) := by decide +kernel
theorem dX12_goOn_55 : decode cX12_goOn 55 = .ok (.invokevirtual 152, 3) := by decide +kernel
theorem dX12_goOn_58 : decode cX12_goOn 58 = .ok (.istore 4, 2) := by decide +kernel
theorem dX12_goOn_60 : decode cX12_goOn 60 = .ok (.iconst 0, 1) := by decide +kernel
theorem dX12_goOn_61 : decode cX12_goOn 61 = .ok (.istore 5, 2) := by decide +kernel
theorem dX12_goOn_63 : decode cX12_goOn 63 = .ok (.iload 5, 2) := by decide +kernel
theorem dX12_goOn_65 : decode cX12_goOn 65 = .ok (.iconst 4, 1) := by decide +kernel
theorem dX12_goOn_66 : decode cX12_goOn 66 = .ok (.if_icmp .ge 42, 3) := by decide +kernel
theorem dX12_goOn_69 : decode cX12_goOn 69 = .ok (.aload_n 0, 1) := by decide +kernel
theorem dX12_goOn_70 : decode cX12_goOn 70 = .ok (.getfield 58, 3) := by decide +kernel
theorem dX12_goOn_73 : decode cX12_goOn 73 = .ok (.bipush 9, 2) := by decide +kernel
theorem dX12_goOn_75 : decode cX12_goOn 75 = .ok (.iload_n 3, 1) := by decide +kernel
theorem dX12_goOn_76 : decode cX12_goOn 76 = .ok (.imul, 1) := by decide +kernel
theorem dX12_goOn_77 : decode cX12_goOn 77 = .ok (.iconst 5, 1) := by decide +kernel
theorem dX12_goOn_78 : decode cX12_goOn 78 = .ok (.iadd, 1) := by decide +kernel
theorem dX12_goOn_79 : decode cX12_goOn 79 = .ok (.iload 5, 2) := by decide +kernel
theorem dX12_goOn_81 : decode cX12_goOn 81 = .ok (.iadd, 1) := by decide +kernel
theorem dX12_goOn_82 : decode cX12_goOn 82 = .ok (.dup2, 1) := by decide +kernel
theorem dX12_goOn_83 : decode cX12_goOn 83 = .ok (.iaload, 1) := by decide +kernel
theorem dX12_goOn_84 : decode cX12_goOn 84 = .ok (.aload_n 0, 1) := by decide +kernel
theorem dX12_goOn_85 : decode cX12_goOn 85 = .ok (.getfield 7, 3) := by decide +kernel
theorem dX12_goOn_88 : decode cX12_goOn 88 = .ok (.sipush 622, 3) := by decide +kernel
theorem dX12_goOn_91 : decode cX12_goOn 91 = .ok (.iconst 4, 1) := by decide +kernel
theorem dX12_goOn_92 : decode cX12_goOn 92 = .ok (.iload 4, 2) := by decide +kernel
theorem dX12_goOn_94 : decode cX12_goOn 94 = .ok (.imul, 1) := by decide +kernel
theorem dX12_goOn_95 : decode cX12_goOn 95 = .ok (.iadd, 1) := by decide +kernel
theorem dX12_goOn_96 : decode cX12_goOn 96 = .ok (.iload 5, 2) := by decide +kernel
theorem dX12_goOn_98 : decode cX12_goOn 98 = .ok (.iadd, 1) := by decide +kernel
theorem dX12_goOn_99 : decode cX12_goOn 99 = .ok (.iaload, 1) := by decide +kernel
theorem dX12_goOn_100 : decode cX12_goOn 100 = .ok (.ior, 1) := by decide +kernel
theorem dX12_goOn_101 : decode cX12_goOn 101 = .ok (.iastore, 1) := by decide +kernel
theorem dX12_goOn_102 : decode cX12_goOn 102 = .ok (.iinc 5 1, 3) := by decide +kernel
theorem dX12_goOn_105 : decode cX12_goOn 105 = .ok (.goto (-42), 3) := by decide +kernel
theorem dX12_goOn_108 : decode cX12_goOn 108 = .ok (.aload_n 0, 1) := by decide +kernel
theorem dX12_goOn_109 : decode cX12_goOn 109 = .ok (.getfield 58, 3) := by decide +kernel
theorem dX12_goOn_112 : decode cX12_goOn 112 = .ok (.bipush 9, 2) := by decide +kernel
theorem dX12_goOn_114 : decode cX12_goOn 114 = .ok (.iload_n 3, 1) := by decide +kernel
theorem dX12_goOn_115 : decode cX12_goOn 115 = .ok (.imul, 1) := by decide +kernel
theorem dX12_goOn_116 : decode cX12_goOn 116 = .ok (.iconst 5, 1) := by decide +kernel
theorem dX12_goOn_117 : decode cX12_goOn 117 = .ok (.iadd, 1) := by decide +kernel
theorem dX12_goOn_118 : decode cX12_goOn 118 = .ok (.iload 4, 2) := by decide +kernel
theorem dX12_goOn_120 : decode cX12_goOn 120 = .ok (.bipush 32, 2) := by decide +kernel
theorem dX12_goOn_122 : decode cX12_goOn 122 = .ok (.idiv, 1) := by decide +kernel
theorem dX12_goOn_123 : decode cX12_goOn 123 = .ok (.iadd, 1) := by decide +kernel
theorem dX12_goOn_124 : decode cX12_goOn 124 = .ok (.dup2, 1) := by decide +kernel
theorem dX12_goOn_125 : decode cX12_goOn 125 = .ok (.iaload, 1) := by decide +kernel
theorem dX12_goOn_126 : decode cX12_goOn 126 = .ok (.iconst 1, 1) := by decide +kernel
theorem dX12_goOn_127 : decode cX12_goOn 127 = .ok (.iload 4, 2) := by decide +kernel
theorem dX12_goOn_129 : decode cX12_goOn 129 = .ok (.bipush 32, 2) := by decide +kernel
theorem dX12_goOn_131 : decode cX12_goOn 131 = .ok (.irem, 1) := by decide +kernel
theorem dX12_goOn_132 : decode cX12_goOn 132 = .ok (.ishl, 1) := by decide +kernel
theorem dX12_goOn_133 : decode cX12_goOn 133 = .ok (.ior, 1) := by decide +kernel
theorem dX12_goOn_134 : decode cX12_goOn 134 = .ok (.iastore, 1) := by decide +kernel
theorem dX12_goOn_135 : decode cX12_goOn 135 = .ok (.aload_n 0, 1) := by decide +kernel
theorem dX12_goOn_136 : decode cX12_goOn 136 = .ok (.iload_n 3, 1) := by decide +kernel
theorem dX12_goOn_137 : decode cX12_goOn 137 = .ok (.invokevirtual 264, 3) := by decide +kernel
theorem dX12_goOn_140 : decode cX12_goOn 140 = .ok (.return_, 1) := by decide +kernel
theorem dX12_wayOf_0 : decode cX12_wayOf 0 = .ok (.aload_n 0, 1) := by decide +kernel
theorem dX12_wayOf_1 : decode cX12_wayOf 1 = .ok (.iload_n 1, 1) := by decide +kernel
theorem dX12_wayOf_2 : decode cX12_wayOf 2 = .ok (.aload_n 0, 1) := by decide +kernel
theorem dX12_wayOf_3 : decode cX12_wayOf 3 = .ok (.getfield 19, 3) := by decide +kernel
theorem dX12_wayOf_6 : decode cX12_wayOf 6 = .ok (.iload_n 2, 1) := by decide +kernel
theorem dX12_wayOf_7 : decode cX12_wayOf 7 = .ok (.iaload, 1) := by decide +kernel
theorem dX12_wayOf_8 : decode cX12_wayOf 8 = .ok (.invokevirtual 267, 3) := by decide +kernel
theorem dX12_wayOf_11 : decode cX12_wayOf 11 = .ok (.istore_n 3, 1) := by decide +kernel
theorem dX12_wayOf_12 : decode cX12_wayOf 12 = .ok (.aload_n 0, 1) := by decide +kernel
theorem dX12_wayOf_13 : decode cX12_wayOf 13 = .ok (.iload_n 1, 1) := by decide +kernel
theorem dX12_wayOf_14 : decode cX12_wayOf 14 = .ok (.aload_n 0, 1) := by decide +kernel
theorem dX12_wayOf_15 : decode cX12_wayOf 15 = .ok (.getfield 25, 3) := by decide +kernel
theorem dX12_wayOf_18 : decode cX12_wayOf 18 = .ok (.iload_n 2, 1) := by decide +kernel
theorem dX12_wayOf_19 : decode cX12_wayOf 19 = .ok (.iaload, 1) := by decide +kernel
theorem dX12_wayOf_20 : decode cX12_wayOf 20 = .ok (.invokevirtual 267, 3) := by decide +kernel
theorem dX12_wayOf_23 : decode cX12_wayOf 23 = .ok (.istore 4, 2) := by decide +kernel
theorem dX12_wayOf_25 : decode cX12_wayOf 25 = .ok (.iload_n 3, 1) := by decide +kernel
theorem dX12_wayOf_26 : decode cX12_wayOf 26 = .ok (.ifCond .eq 8, 3) := by decide +kernel
theorem dX12_wayOf_29 : decode cX12_wayOf 29 = .ok (.iload 4, 2) := by decide +kernel
theorem dX12_wayOf_31 : decode cX12_wayOf 31 = .ok (.ifCond .ne 22, 3) := by decide +kernel
theorem dX12_wayOf_34 : decode cX12_wayOf 34 = .ok (.iload_n 3, 1) := by decide +kernel
theorem dX12_wayOf_35 : decode cX12_wayOf 35 = .ok (.ifCond .eq 7, 3) := by decide +kernel
theorem dX12_wayOf_38 : decode cX12_wayOf 38 = .ok (.iconst 0, 1) := by decide +kernel
theorem dX12_wayOf_39 : decode cX12_wayOf 39 = .ok (.goto 13, 3) := by decide +kernel
theorem dX12_wayOf_42 : decode cX12_wayOf 42 = .ok (.iload 4, 2) := by decide +kernel
theorem dX12_wayOf_44 : decode cX12_wayOf 44 = .ok (.ifCond .eq 7, 3) := by decide +kernel
theorem dX12_wayOf_47 : decode cX12_wayOf 47 = .ok (.iconst 1, 1) := by decide +kernel
theorem dX12_wayOf_48 : decode cX12_wayOf 48 = .ok (.goto 4, 3) := by decide +kernel
theorem dX12_wayOf_51 : decode cX12_wayOf 51 = .ok (.iconst (-1), 1) := by decide +kernel
theorem dX12_wayOf_52 : decode cX12_wayOf 52 = .ok (.ireturn, 1) := by decide +kernel
theorem dX12_wayOf_53 : decode cX12_wayOf 53 = .ok (.aload_n 0, 1) := by decide +kernel
theorem dX12_wayOf_54 : decode cX12_wayOf 54 = .ok (.getfield 22, 3) := by decide +kernel
theorem dX12_wayOf_57 : decode cX12_wayOf 57 = .ok (.iload_n 2, 1) := by decide +kernel
theorem dX12_wayOf_58 : decode cX12_wayOf 58 = .ok (.iaload, 1) := by decide +kernel
theorem dX12_wayOf_59 : decode cX12_wayOf 59 = .ok (.aload_n 0, 1) := by decide +kernel
theorem dX12_wayOf_60 : decode cX12_wayOf 60 = .ok (.getfield 28, 3) := by decide +kernel
theorem dX12_wayOf_63 : decode cX12_wayOf 63 = .ok (.iload_n 2, 1) := by decide +kernel
theorem dX12_wayOf_64 : decode cX12_wayOf 64 = .ok (.iaload, 1) := by decide +kernel
theorem dX12_wayOf_65 : decode cX12_wayOf 65 = .ok (.if_icmp .eq 24, 3) := by decide +kernel
theorem dX12_wayOf_68 : decode cX12_wayOf 68 = .ok (.aload_n 0, 1) := by decide +kernel
theorem dX12_wayOf_69 : decode cX12_wayOf 69 = .ok (.getfield 22, 3) := by decide +kernel
theorem dX12_wayOf_72 : decode cX12_wayOf 72 = .ok (.iload_n 2, 1) := by decide +kernel
theorem dX12_wayOf_73 : decode cX12_wayOf 73 = .ok (.iaload, 1) := by decide +kernel
theorem dX12_wayOf_74 : decode cX12_wayOf 74 = .ok (.aload_n 0, 1) := by decide +kernel
theorem dX12_wayOf_75 : decode cX12_wayOf 75 = .ok (.getfield 28, 3) := by decide +kernel
theorem dX12_wayOf_78 : decode cX12_wayOf 78 = .ok (.iload_n 2, 1) := by decide +kernel
theorem dX12_wayOf_79 : decode cX12_wayOf 79 = .ok (.iaload, 1) := by decide +kernel
theorem dX12_wayOf_80 : decode cX12_wayOf 80 = .ok (.if_icmp .le 7, 3) := by decide +kernel
theorem dX12_wayOf_83 : decode cX12_wayOf 83 = .ok (.iconst 0, 1) := by decide +kernel
theorem dX12_wayOf_84 : decode cX12_wayOf 84 = .ok (.goto 4, 3) := by decide +kernel
theorem dX12_wayOf_87 : decode cX12_wayOf 87 = .ok (.iconst 1, 1) := by decide +kernel
theorem dX12_wayOf_88 : decode cX12_wayOf 88 = .ok (.ireturn, 1) := by decide +kernel
theorem dX12_wayOf_89 : decode cX12_wayOf 89 = .ok (.aload_n 0, 1) := by decide +kernel
theorem dX12_wayOf_90 : decode cX12_wayOf 90 = .ok (.getfield 7, 3) := by decide +kernel
theorem dX12_wayOf_93 : decode cX12_wayOf 93 = .ok (.sipush 9743, 3) := by decide +kernel
theorem dX12_wayOf_96 : decode cX12_wayOf 96 = .ok (.iconst 2, 1) := by decide +kernel
theorem dX12_wayOf_97 : decode cX12_wayOf 97 = .ok (.iload_n 2, 1) := by decide +kernel
theorem dX12_wayOf_98 : decode cX12_wayOf 98 = .ok (.imul, 1) := by decide +kernel
theorem dX12_wayOf_99 : decode cX12_wayOf 99 = .ok (.iadd, 1) := by decide +kernel
theorem dX12_wayOf_100 : decode cX12_wayOf 100 = .ok (.iconst 1, 1) := by decide +kernel
theorem dX12_wayOf_101 : decode cX12_wayOf 101 = .ok (.iadd, 1) := by decide +kernel
theorem dX12_wayOf_102 : decode cX12_wayOf 102 = .ok (.iaload, 1) := by decide +kernel
theorem dX12_wayOf_103 : decode cX12_wayOf 103 = .ok (.aload_n 0, 1) := by decide +kernel
theorem dX12_wayOf_104 : decode cX12_wayOf 104 = .ok (.getfield 7, 3) := by decide +kernel
theorem dX12_wayOf_107 : decode cX12_wayOf 107 = .ok (.sipush 9743, 3) := by decide +kernel
theorem dX12_wayOf_110 : decode cX12_wayOf 110 = .ok (.iconst 2, 1) := by decide +kernel
theorem dX12_wayOf_111 : decode cX12_wayOf 111 = .ok (.iload_n 2, 1) := by decide +kernel
theorem dX12_wayOf_112 : decode cX12_wayOf 112 = .ok (.imul, 1) := by decide +kernel
theorem dX12_wayOf_113 : decode cX12_wayOf 113 = .ok (.iadd, 1) := by decide +kernel
theorem dX12_wayOf_114 : decode cX12_wayOf 114 = .ok (.iaload, 1) := by decide +kernel
theorem dX12_wayOf_115 : decode cX12_wayOf 115 = .ok (.if_icmp .ge 7, 3) := by decide +kernel
theorem dX12_wayOf_118 : decode cX12_wayOf 118 = .ok (.iconst 1, 1) := by decide +kernel
theorem dX12_wayOf_119 : decode cX12_wayOf 119 = .ok (.goto 4, 3) := by decide +kernel
theorem dX12_wayOf_122 : decode cX12_wayOf 122 = .ok (.iconst 0, 1) := by decide +kernel
theorem dX12_wayOf_123 : decode cX12_wayOf 123 = .ok (.ireturn, 1) := by decide +kernel
theorem dX12_actEither_0 : decode cX12_actEither 0 = .ok (.aload_n 0, 1) := by decide +kernel
theorem dX12_actEither_1 : decode cX12_actEither 1 = .ok (.iload_n 1, 1) := by decide +kernel
theorem dX12_actEither_2 : decode cX12_actEither 2 = .ok (.iload_n 2, 1) := by decide +kernel
theorem dX12_actEither_3 : decode cX12_actEither 3 = .ok (.invokevirtual 270, 3) := by decide +kernel
theorem dX12_actEither_6 : decode cX12_actEither 6 = .ok (.istore_n 3, 1) := by decide +kernel
theorem dX12_actEither_7 : decode cX12_actEither 7 = .ok (.iload_n 3, 1) := by decide +kernel
theorem dX12_actEither_8 : decode cX12_actEither 8 = .ok (.iconst (-1), 1) := by decide +kernel
theorem dX12_actEither_9 : decode cX12_actEither 9 = .ok (.if_icmp .ne 9, 3) := by decide +kernel
theorem dX12_actEither_12 : decode cX12_actEither 12 = .ok (.aload_n 0, 1) := by decide +kernel
theorem dX12_actEither_13 : decode cX12_actEither 13 = .ok (.iload_n 1, 1) := by decide +kernel
theorem dX12_actEither_14 : decode cX12_actEither 14 = .ok (.invokevirtual 273, 3) := by decide +kernel
theorem dX12_actEither_17 : decode cX12_actEither 17 = .ok (.return_, 1) := by decide +kernel
theorem dX12_actEither_18 : decode cX12_actEither 18 = .ok (.aload_n 0, 1) := by decide +kernel
theorem dX12_actEither_19 : decode cX12_actEither 19 = .ok (.getfield 7, 3) := by decide +kernel
theorem dX12_actEither_22 : decode cX12_actEither 22 = .ok (.sipush 9743, 3) := by decide +kernel
theorem dX12_actEither_25 : decode cX12_actEither 25 = .ok (.iconst 2, 1) := by decide +kernel
theorem dX12_actEither_26 : decode cX12_actEither 26 = .ok (.iload_n 2, 1) := by decide +kernel
theorem dX12_actEither_27 : decode cX12_actEither 27 = .ok (.imul, 1) := by decide +kernel
theorem dX12_actEither_28 : decode cX12_actEither 28 = .ok (.iadd, 1) := by decide +kernel
theorem dX12_actEither_29 : decode cX12_actEither 29 = .ok (.iload_n 3, 1) := by decide +kernel
theorem dX12_actEither_30 : decode cX12_actEither 30 = .ok (.iadd, 1) := by decide +kernel
theorem dX12_actEither_31 : decode cX12_actEither 31 = .ok (.dup2, 1) := by decide +kernel
theorem dX12_actEither_32 : decode cX12_actEither 32 = .ok (.iaload, 1) := by decide +kernel
theorem dX12_actEither_33 : decode cX12_actEither 33 = .ok (.iconst 1, 1) := by decide +kernel
theorem dX12_actEither_34 : decode cX12_actEither 34 = .ok (.iadd, 1) := by decide +kernel
theorem dX12_actEither_35 : decode cX12_actEither 35 = .ok (.iastore, 1) := by decide +kernel
theorem dX12_actEither_36 : decode cX12_actEither 36 = .ok (.aload_n 0, 1) := by decide +kernel
theorem dX12_actEither_37 : decode cX12_actEither 37 = .ok (.iload_n 1, 1) := by decide +kernel
theorem dX12_actEither_38 : decode cX12_actEither 38 = .ok (.iload_n 3, 1) := by decide +kernel
theorem dX12_actEither_39 : decode cX12_actEither 39 = .ok (.ifCond .ne 12, 3) := by decide +kernel
theorem dX12_actEither_42 : decode cX12_actEither 42 = .ok (.aload_n 0, 1) := by decide +kernel
theorem dX12_actEither_43 : decode cX12_actEither 43 = .ok (.getfield 19, 3) := by decide +kernel
theorem dX12_actEither_46 : decode cX12_actEither 46 = .ok (.iload_n 2, 1) := by decide +kernel
theorem dX12_actEither_47 : decode cX12_actEither 47 = .ok (.iaload, 1) := by decide +kernel
theorem dX12_actEither_48 : decode cX12_actEither 48 = .ok (.goto 9, 3) := by decide +kernel
theorem dX12_actEither_51 : decode cX12_actEither 51 = .ok (.aload_n 0, 1) := by decide +kernel
theorem dX12_actEither_52 : decode cX12_actEither 52 = .ok (.getfield 25, 3) := by decide +kernel
theorem dX12_actEither_55 : decode cX12_actEither 55 = .ok (.iload_n 2, 1) := by decide +kernel
theorem dX12_actEither_56 : decode cX12_actEither 56 = .ok (.iaload, 1) := by decide +kernel
theorem dX12_actEither_57 : decode cX12_actEither 57 = .ok (.invokevirtual 276, 3) := by decide +kernel
theorem dX12_actEither_60 : decode cX12_actEither 60 = .ok (.return_, 1) := by decide +kernel
theorem dX12_countPrimes_0 : decode cX12_countPrimes 0 = .ok (.iload_n 1, 1) := by decide +kernel
theorem dX12_countPrimes_1 : decode cX12_countPrimes 1 = .ok (.istore_n 3, 1) := by decide +kernel
theorem dX12_countPrimes_2 : decode cX12_countPrimes 2 = .ok (.iconst 0, 1) := by decide +kernel
theorem dX12_countPrimes_3 : decode cX12_countPrimes 3 = .ok (.istore 4, 2) := by decide +kernel
theorem dX12_countPrimes_5 : decode cX12_countPrimes 5 = .ok (.iload 4, 2) := by decide +kernel
theorem dX12_countPrimes_7 : decode cX12_countPrimes 7 = .ok (.bipush 7, 2) := by decide +kernel
theorem dX12_countPrimes_9 : decode cX12_countPrimes 9 = .ok (.if_icmp .ge 46, 3) := by decide +kernel
theorem dX12_countPrimes_12 : decode cX12_countPrimes 12 = .ok (.iload 4, 2) := by decide +kernel
theorem dX12_countPrimes_14 : decode cX12_countPrimes 14 = .ok (.invokestatic 279, 3) := by decide +kernel
theorem dX12_countPrimes_17 : decode cX12_countPrimes 17 = .ok (.istore 5, 2) := by decide +kernel
theorem dX12_countPrimes_19 : decode cX12_countPrimes 19 = .ok (.iload_n 3, 1) := by decide +kernel
theorem dX12_countPrimes_20 : decode cX12_countPrimes 20 = .ok (.iload 5, 2) := by decide +kernel
theorem dX12_countPrimes_22 : decode cX12_countPrimes 22 = .ok (.irem, 1) := by decide +kernel
theorem dX12_countPrimes_23 : decode cX12_countPrimes 23 = .ok (.ifCond .ne 26, 3) := by decide +kernel
theorem dX12_countPrimes_26 : decode cX12_countPrimes 26 = .ok (.iload_n 3, 1) := by decide +kernel
theorem dX12_countPrimes_27 : decode cX12_countPrimes 27 = .ok (.iload 5, 2) := by decide +kernel
theorem dX12_countPrimes_29 : decode cX12_countPrimes 29 = .ok (.idiv, 1) := by decide +kernel
theorem dX12_countPrimes_30 : decode cX12_countPrimes 30 = .ok (.istore_n 3, 1) := by decide +kernel
theorem dX12_countPrimes_31 : decode cX12_countPrimes 31 = .ok (.aload_n 0, 1) := by decide +kernel
theorem dX12_countPrimes_32 : decode cX12_countPrimes 32 = .ok (.getfield 7, 3) := by decide +kernel
theorem dX12_countPrimes_35 : decode cX12_countPrimes 35 = .ok (.sipush 7031, 3) := by decide +kernel
theorem dX12_countPrimes_38 : decode cX12_countPrimes 38 = .ok (.iload 4, 2) := by decide +kernel
theorem dX12_countPrimes_40 : decode cX12_countPrimes 40 = .ok (.iadd, 1) := by decide +kernel
theorem dX12_countPrimes_41 : decode cX12_countPrimes 41 = .ok (.dup2, 1) := by decide +kernel
theorem dX12_countPrimes_42 : decode cX12_countPrimes 42 = .ok (.iaload, 1) := by decide +kernel
theorem dX12_countPrimes_43 : decode cX12_countPrimes 43 = .ok (.iload_n 2, 1) := by decide +kernel
theorem dX12_countPrimes_44 : decode cX12_countPrimes 44 = .ok (.iadd, 1) := by decide +kernel
theorem dX12_countPrimes_45 : decode cX12_countPrimes 45 = .ok (.iastore, 1) := by decide +kernel
theorem dX12_countPrimes_46 : decode cX12_countPrimes 46 = .ok (.goto (-27), 3) := by decide +kernel
theorem dX12_countPrimes_49 : decode cX12_countPrimes 49 = .ok (.iinc 4 1, 3) := by decide +kernel
theorem dX12_countPrimes_52 : decode cX12_countPrimes 52 = .ok (.goto (-47), 3) := by decide +kernel
theorem dX12_countPrimes_55 : decode cX12_countPrimes 55 = .ok (.return_, 1) := by decide +kernel
theorem dX12_primeOf_0 : decode cX12_primeOf 0 = .ok (.iload_n 0, 1) := by decide +kernel
theorem dX12_primeOf_1 : decode cX12_primeOf 1 = .ok (.ifCond .ne 7, 3) := by decide +kernel
theorem dX12_primeOf_4 : decode cX12_primeOf 4 = .ok (.iconst 2, 1) := by decide +kernel
theorem dX12_primeOf_5 : decode cX12_primeOf 5 = .ok (.goto 53, 3) := by decide +kernel
theorem dX12_primeOf_8 : decode cX12_primeOf 8 = .ok (.iload_n 0, 1) := by decide +kernel
theorem dX12_primeOf_9 : decode cX12_primeOf 9 = .ok (.iconst 1, 1) := by decide +kernel
theorem dX12_primeOf_10 : decode cX12_primeOf 10 = .ok (.if_icmp .ne 7, 3) := by decide +kernel
theorem dX12_primeOf_13 : decode cX12_primeOf 13 = .ok (.iconst 3, 1) := by decide +kernel
theorem dX12_primeOf_14 : decode cX12_primeOf 14 = .ok (.goto 44, 3) := by decide +kernel
theorem dX12_primeOf_17 : decode cX12_primeOf 17 = .ok (.iload_n 0, 1) := by decide +kernel
theorem dX12_primeOf_18 : decode cX12_primeOf 18 = .ok (.iconst 2, 1) := by decide +kernel
theorem dX12_primeOf_19 : decode cX12_primeOf 19 = .ok (.if_icmp .ne 7, 3) := by decide +kernel
theorem dX12_primeOf_22 : decode cX12_primeOf 22 = .ok (.iconst 5, 1) := by decide +kernel
theorem dX12_primeOf_23 : decode cX12_primeOf 23 = .ok (.goto 35, 3) := by decide +kernel
theorem dX12_primeOf_26 : decode cX12_primeOf 26 = .ok (.iload_n 0, 1) := by decide +kernel
theorem dX12_primeOf_27 : decode cX12_primeOf 27 = .ok (.iconst 3, 1) := by decide +kernel
theorem dX12_primeOf_28 : decode cX12_primeOf 28 = .ok (.if_icmp .ne 8, 3) := by decide +kernel
theorem dX12_primeOf_31 : decode cX12_primeOf 31 = .ok (.bipush 7, 2) := by decide +kernel
theorem dX12_primeOf_33 : decode cX12_primeOf 33 = .ok (.goto 25, 3) := by decide +kernel
theorem dX12_primeOf_36 : decode cX12_primeOf 36 = .ok (.iload_n 0, 1) := by decide +kernel
theorem dX12_primeOf_37 : decode cX12_primeOf 37 = .ok (.iconst 4, 1) := by decide +kernel
theorem dX12_primeOf_38 : decode cX12_primeOf 38 = .ok (.if_icmp .ne 8, 3) := by decide +kernel
theorem dX12_primeOf_41 : decode cX12_primeOf 41 = .ok (.bipush 11, 2) := by decide +kernel
theorem dX12_primeOf_43 : decode cX12_primeOf 43 = .ok (.goto 15, 3) := by decide +kernel
theorem dX12_primeOf_46 : decode cX12_primeOf 46 = .ok (.iload_n 0, 1) := by decide +kernel
theorem dX12_primeOf_47 : decode cX12_primeOf 47 = .ok (.iconst 5, 1) := by decide +kernel
theorem dX12_primeOf_48 : decode cX12_primeOf 48 = .ok (.if_icmp .ne 8, 3) := by decide +kernel
theorem dX12_primeOf_51 : decode cX12_primeOf 51 = .ok (.bipush 13, 2) := by decide +kernel
theorem dX12_primeOf_53 : decode cX12_primeOf 53 = .ok (.goto 5, 3) := by decide +kernel
theorem dX12_primeOf_56 : decode cX12_primeOf 56 = .ok (.bipush 17, 2) := by decide +kernel
theorem dX12_primeOf_58 : decode cX12_primeOf 58 = .ok (.ireturn, 1) := by decide +kernel
theorem dX12_actLot_0 : decode cX12_actLot 0 = .ok (.aload_n 0, 1) := by decide +kernel
theorem dX12_actLot_1 : decode cX12_actLot 1 = .ok (.getfield 7, 3) := by decide +kernel
theorem dX12_actLot_4 : decode cX12_actLot 4 = .ok (.sipush 7038, 3) := by decide +kernel
theorem dX12_actLot_7 : decode cX12_actLot 7 = .ok (.ldc2_w 282, 3) := by decide +kernel
theorem dX12_actLot_10 : decode cX12_actLot 10 = .ok (.aload_n 0, 1) := by decide +kernel
theorem dX12_actLot_11 : decode cX12_actLot 11 = .ok (.getfield 7, 3) := by decide +kernel
theorem dX12_actLot_14 : decode cX12_actLot 14 = .ok (.sipush 7038, 3) := by decide +kernel
theorem dX12_actLot_17 : decode cX12_actLot 17 = .ok (.iaload, 1) := by decide +kernel
theorem dX12_actLot_18 : decode cX12_actLot 18 = .ok (.i2l, 1) := by decide +kernel
theorem dX12_actLot_19 : decode cX12_actLot 19 = .ok (.lmul, 1) := by decide +kernel
theorem dX12_actLot_20 : decode cX12_actLot 20 = .ok (.ldc2_w 284, 3) := by decide +kernel
theorem dX12_actLot_23 : decode cX12_actLot 23 = .ok (.ladd, 1) := by decide +kernel
theorem dX12_actLot_24 : decode cX12_actLot 24 = .ok (.ldc2_w 286, 3) := by decide +kernel
theorem dX12_actLot_27 : decode cX12_actLot 27 = .ok (.lrem, 1) := by decide +kernel
theorem dX12_actLot_28 : decode cX12_actLot 28 = .ok (.l2i, 1) := by decide +kernel
theorem dX12_actLot_29 : decode cX12_actLot 29 = .ok (.iastore, 1) := by decide +kernel
theorem dX12_actLot_30 : decode cX12_actLot 30 = .ok (.aload_n 0, 1) := by decide +kernel
theorem dX12_actLot_31 : decode cX12_actLot 31 = .ok (.getfield 19, 3) := by decide +kernel
theorem dX12_actLot_34 : decode cX12_actLot 34 = .ok (.iload_n 2, 1) := by decide +kernel
theorem dX12_actLot_35 : decode cX12_actLot 35 = .ok (.iaload, 1) := by decide +kernel
theorem dX12_actLot_36 : decode cX12_actLot 36 = .ok (.aload_n 0, 1) := by decide +kernel
theorem dX12_actLot_37 : decode cX12_actLot 37 = .ok (.getfield 25, 3) := by decide +kernel
theorem dX12_actLot_40 : decode cX12_actLot 40 = .ok (.iload_n 2, 1) := by decide +kernel
theorem dX12_actLot_41 : decode cX12_actLot 41 = .ok (.iaload, 1) := by decide +kernel
theorem dX12_actLot_42 : decode cX12_actLot 42 = .ok (.iadd, 1) := by decide +kernel
theorem dX12_actLot_43 : decode cX12_actLot 43 = .ok (.istore_n 3, 1) := by decide +kernel
theorem dX12_actLot_44 : decode cX12_actLot 44 = .ok (.aload_n 0, 1) := by decide +kernel
theorem dX12_actLot_45 : decode cX12_actLot 45 = .ok (.getfield 7, 3) := by decide +kernel
theorem dX12_actLot_48 : decode cX12_actLot 48 = .ok (.sipush 7038, 3) := by decide +kernel
theorem dX12_actLot_51 : decode cX12_actLot 51 = .ok (.iaload, 1) := by decide +kernel
theorem dX12_actLot_52 : decode cX12_actLot 52 = .ok (.iload_n 3, 1) := by decide +kernel
theorem dX12_actLot_53 : decode cX12_actLot 53 = .ok (.irem, 1) := by decide +kernel
theorem dX12_actLot_54 : decode cX12_actLot 54 = .ok (.aload_n 0, 1) := by decide +kernel
theorem dX12_actLot_55 : decode cX12_actLot 55 = .ok (.getfield 19, 3) := by decide +kernel
theorem dX12_actLot_58 : decode cX12_actLot 58 = .ok (.iload_n 2, 1) := by decide +kernel
theorem dX12_actLot_59 : decode cX12_actLot 59 = .ok (.iaload, 1) := by decide +kernel
theorem dX12_actLot_60 : decode cX12_actLot 60 = .ok (.if_icmp .ge 7, 3) := by decide +kernel
theorem dX12_actLot_63 : decode cX12_actLot 63 = .ok (.iconst 1, 1) := by decide +kernel
theorem dX12_actLot_64 : decode cX12_actLot 64 = .ok (.goto 4, 3) := by decide +kernel
theorem dX12_actLot_67 : decode cX12_actLot 67 = .ok (.iconst 0, 1) := by decide +kernel
theorem dX12_actLot_68 : decode cX12_actLot 68 = .ok (.istore 4, 2) := by decide +kernel
theorem dX12_actLot_70 : decode cX12_actLot 70 = .ok (.aload_n 0, 1) := by decide +kernel
theorem dX12_actLot_71 : decode cX12_actLot 71 = .ok (.iload 4, 2) := by decide +kernel
theorem dX12_actLot_73 : decode cX12_actLot 73 = .ok (.ifCond .eq 12, 3) := by decide +kernel
theorem dX12_actLot_76 : decode cX12_actLot 76 = .ok (.aload_n 0, 1) := by decide +kernel
theorem dX12_actLot_77 : decode cX12_actLot 77 = .ok (.getfield 19, 3) := by decide +kernel
theorem dX12_actLot_80 : decode cX12_actLot 80 = .ok (.iload_n 2, 1) := by decide +kernel
theorem dX12_actLot_81 : decode cX12_actLot 81 = .ok (.iaload, 1) := by decide +kernel
theorem dX12_actLot_82 : decode cX12_actLot 82 = .ok (.goto 9, 3) := by decide +kernel
theorem dX12_actLot_85 : decode cX12_actLot 85 = .ok (.aload_n 0, 1) := by decide +kernel
theorem dX12_actLot_86 : decode cX12_actLot 86 = .ok (.getfield 25, 3) := by decide +kernel
theorem dX12_actLot_89 : decode cX12_actLot 89 = .ok (.iload_n 2, 1) := by decide +kernel
theorem dX12_actLot_90 : decode cX12_actLot 90 = .ok (.iaload, 1) := by decide +kernel
theorem dX12_actLot_91 : decode cX12_actLot 91 = .ok (.iconst 1, 1) := by decide +kernel
theorem dX12_actLot_92 : decode cX12_actLot 92 = .ok (.invokevirtual 288, 3) := by decide +kernel
theorem dX12_actLot_95 : decode cX12_actLot 95 = .ok (.aload_n 0, 1) := by decide +kernel
theorem dX12_actLot_96 : decode cX12_actLot 96 = .ok (.iload_n 3, 1) := by decide +kernel
theorem dX12_actLot_97 : decode cX12_actLot 97 = .ok (.iconst (-1), 1) := by decide +kernel
theorem dX12_actLot_98 : decode cX12_actLot 98 = .ok (.invokevirtual 288, 3) := by decide +kernel
theorem dX12_actLot_101 : decode cX12_actLot 101 = .ok (.aload_n 0, 1) := by decide +kernel
theorem dX12_actLot_102 : decode cX12_actLot 102 = .ok (.aload_n 0, 1) := by decide +kernel
theorem dX12_actLot_103 : decode cX12_actLot 103 = .ok (.iload_n 1, 1) := by decide +kernel
theorem dX12_actLot_104 : decode cX12_actLot 104 = .ok (.iload 4, 2) := by decide +kernel
theorem dX12_actLot_106 : decode cX12_actLot 106 = .ok (.ifCond .eq 12, 3) := by decide +kernel
theorem dX12_actLot_109 : decode cX12_actLot 109 = .ok (.aload_n 0, 1) := by decide +kernel
theorem dX12_actLot_110 : decode cX12_actLot 110 = .ok (.getfield 22, 3) := by decide +kernel
theorem dX12_actLot_113 : decode cX12_actLot 113 = .ok (.iload_n 2, 1) := by decide +kernel
theorem dX12_actLot_114 : decode cX12_actLot 114 = .ok (.iaload, 1) := by decide +kernel
theorem dX12_actLot_115 : decode cX12_actLot 115 = .ok (.goto 9, 3) := by decide +kernel
theorem dX12_actLot_118 : decode cX12_actLot 118 = .ok (.aload_n 0, 1) := by decide +kernel
theorem dX12_actLot_119 : decode cX12_actLot 119 = .ok (.getfield 28, 3) := by decide +kernel
theorem dX12_actLot_122 : decode cX12_actLot 122 = .ok (.iload_n 2, 1) := by decide +kernel
theorem dX12_actLot_123 : decode cX12_actLot 123 = .ok (.iaload, 1) := by decide +kernel
theorem dX12_actLot_124 : decode cX12_actLot 124 = .ok (.invokevirtual 261, 3) := by decide +kernel
theorem dX12_actLot_127 : decode cX12_actLot 127 = .ok (.invokevirtual 264, 3) := by decide +kernel
theorem dX12_actLot_130 : decode cX12_actLot 130 = .ok (.return_, 1) := by decide +kernel
theorem dX12_actTry_0 : decode cX12_actTry 0 = .ok (.aload_n 0, 1) := by decide +kernel
theorem dX12_actTry_1 : decode cX12_actTry 1 = .ok (.getfield 255, 3) := by decide +kernel
theorem dX12_actTry_4 : decode cX12_actTry 4 = .ok (.iconst 3, 1) := by decide +kernel
theorem dX12_actTry_5 : decode cX12_actTry 5 = .ok (.if_icmp .ne 19, 3) := by decide +kernel
theorem dX12_actTry_8 : decode cX12_actTry 8 = .ok (.aload_n 0, 1) := by decide +kernel
theorem dX12_actTry_9 : decode cX12_actTry 9 = .ok (.aload_n 0, 1) := by decide +kernel
theorem dX12_actTry_10 : decode cX12_actTry 10 = .ok (.iload_n 1, 1) := by decide +kernel
theorem dX12_actTry_11 : decode cX12_actTry 11 = .ok (.aload_n 0, 1) := by decide +kernel
theorem dX12_actTry_12 : decode cX12_actTry 12 = .ok (.getfield 22, 3) := by decide +kernel
theorem dX12_actTry_15 : decode cX12_actTry 15 = .ok (.iload_n 2, 1) := by decide +kernel
theorem dX12_actTry_16 : decode cX12_actTry 16 = .ok (.iaload, 1) := by decide +kernel
theorem dX12_actTry_17 : decode cX12_actTry 17 = .ok (.invokevirtual 261, 3) := by decide +kernel
theorem dX12_actTry_20 : decode cX12_actTry 20 = .ok (.invokevirtual 264, 3) := by decide +kernel
theorem dX12_actTry_23 : decode cX12_actTry 23 = .ok (.return_, 1) := by decide +kernel
theorem dX12_actTry_24 : decode cX12_actTry 24 = .ok (.sipush 225, 3) := by decide +kernel
theorem dX12_actTry_27 : decode cX12_actTry 27 = .ok (.aload_n 0, 1) := by decide +kernel
theorem dX12_actTry_28 : decode cX12_actTry 28 = .ok (.getfield 255, 3) := by decide +kernel
theorem dX12_actTry_31 : decode cX12_actTry 31 = .ok (.imul, 1) := by decide +kernel
theorem dX12_actTry_32 : decode cX12_actTry 32 = .ok (.istore_n 3, 1) := by decide +kernel
theorem dX12_actTry_33 : decode cX12_actTry 33 = .ok (.aload_n 0, 1) := by decide +kernel
theorem dX12_actTry_34 : decode cX12_actTry 34 = .ok (.getfield 88, 3) := by decide +kernel
theorem dX12_actTry_37 : decode cX12_actTry 37 = .ok (.iload_n 3, 1) := by decide +kernel
theorem dX12_actTry_38 : decode cX12_actTry 38 = .ok (.aload_n 0, 1) := by decide +kernel
theorem dX12_actTry_39 : decode cX12_actTry 39 = .ok (.getfield 7, 3) := by decide +kernel
theorem dX12_actTry_42 : decode cX12_actTry 42 = .ok (.iconst 0, 1) := by decide +kernel
theorem dX12_actTry_43 : decode cX12_actTry 43 = .ok (.iaload, 1) := by decide +kernel
theorem dX12_actTry_44 : decode cX12_actTry 44 = .ok (.iastore, 1) := by decide +kernel
theorem dX12_actTry_45 : decode cX12_actTry 45 = .ok (.aload_n 0, 1) := by decide +kernel
theorem dX12_actTry_46 : decode cX12_actTry 46 = .ok (.getfield 88, 3) := by decide +kernel
theorem dX12_actTry_49 : decode cX12_actTry 49 = .ok (.iload_n 3, 1) := by decide +kernel
theorem dX12_actTry_50 : decode cX12_actTry 50 = .ok (.iconst 1, 1) := by decide +kernel
theorem dX12_actTry_51 : decode cX12_actTry 51 = .ok (.iadd, 1) := by decide +kernel
theorem dX12_actTry_52 : decode cX12_actTry 52 = .ok (.aload_n 0, 1) := by decide +kernel
theorem dX12_actTry_53 : decode cX12_actTry 53 = .ok (.getfield 7, 3) := by decide +kernel
theorem dX12_actTry_56 : decode cX12_actTry 56 = .ok (.bipush 121, 2) := by decide +kernel
theorem dX12_actTry_58 : decode cX12_actTry 58 = .ok (.iaload, 1) := by decide +kernel
theorem dX12_actTry_59 : decode cX12_actTry 59 = .ok (.iastore, 1) := by decide +kernel
theorem dX12_actTry_60 : decode cX12_actTry 60 = .ok (.aload_n 0, 1) := by decide +kernel
theorem dX12_actTry_61 : decode cX12_actTry 61 = .ok (.getfield 88, 3) := by decide +kernel
theorem dX12_actTry_64 : decode cX12_actTry 64 = .ok (.iload_n 3, 1) := by decide +kernel
theorem dX12_actTry_65 : decode cX12_actTry 65 = .ok (.iconst 2, 1) := by decide +kernel
theorem dX12_actTry_66 : decode cX12_actTry 66 = .ok (.iadd, 1) := by decide +kernel
theorem dX12_actTry_67 : decode cX12_actTry 67 = .ok (.aload_n 0, 1) := by decide +kernel
theorem dX12_actTry_68 : decode cX12_actTry 68 = .ok (.getfield 7, 3) := by decide +kernel
theorem dX12_actTry_71 : decode cX12_actTry 71 = .ok (.sipush 1022, 3) := by decide +kernel
theorem dX12_actTry_74 : decode cX12_actTry 74 = .ok (.iaload, 1) := by decide +kernel
theorem dX12_actTry_75 : decode cX12_actTry 75 = .ok (.iastore, 1) := by decide +kernel
theorem dX12_actTry_76 : decode cX12_actTry 76 = .ok (.iconst 0, 1) := by decide +kernel
theorem dX12_actTry_77 : decode cX12_actTry 77 = .ok (.istore 4, 2) := by decide +kernel
theorem dX12_actTry_79 : decode cX12_actTry 79 = .ok (.iload 4, 2) := by decide +kernel
theorem dX12_actTry_81 : decode cX12_actTry 81 = .ok (.bipush 60, 2) := by decide +kernel
theorem dX12_actTry_83 : decode cX12_actTry 83 = .ok (.if_icmp .ge 51, 3) := by decide +kernel
theorem dX12_actTry_86 : decode cX12_actTry 86 = .ok (.aload_n 0, 1) := by decide +kernel
theorem dX12_actTry_87 : decode cX12_actTry 87 = .ok (.getfield 88, 3) := by decide +kernel
theorem dX12_actTry_90 : decode cX12_actTry 90 = .ok (.iload_n 3, 1) := by decide +kernel
theorem dX12_actTry_91 : decode cX12_actTry 91 = .ok (.iconst 3, 1) := by decide +kernel
theorem dX12_actTry_92 : decode cX12_actTry 92 = .ok (.iadd, 1) := by decide +kernel
theorem dX12_actTry_93 : decode cX12_actTry 93 = .ok (.iload 4, 2) := by decide +kernel
theorem dX12_actTry_95 : decode cX12_actTry 95 = .ok (.iadd, 1) := by decide +kernel
theorem dX12_actTry_96 : decode cX12_actTry 96 = .ok (.aload_n 0, 1) := by decide +kernel
theorem dX12_actTry_97 : decode cX12_actTry 97 = .ok (.getfield 7, 3) := by decide +kernel
theorem dX12_actTry_100 : decode cX12_actTry 100 = .ok (.iconst 1, 1) := by decide +kernel
theorem dX12_actTry_101 : decode cX12_actTry 101 = .ok (.iload 4, 2) := by decide +kernel
theorem dX12_actTry_103 : decode cX12_actTry 103 = .ok (.iadd, 1) := by decide +kernel
theorem dX12_actTry_104 : decode cX12_actTry 104 = .ok (.iaload, 1) := by decide +kernel
theorem dX12_actTry_105 : decode cX12_actTry 105 = .ok (.iastore, 1) := by decide +kernel
theorem dX12_actTry_106 : decode cX12_actTry 106 = .ok (.aload_n 0, 1) := by decide +kernel
theorem dX12_actTry_107 : decode cX12_actTry 107 = .ok (.getfield 88, 3) := by decide +kernel
theorem dX12_actTry_110 : decode cX12_actTry 110 = .ok (.iload_n 3, 1) := by decide +kernel
theorem dX12_actTry_111 : decode cX12_actTry 111 = .ok (.bipush 63, 2) := by decide +kernel
theorem dX12_actTry_113 : decode cX12_actTry 113 = .ok (.iadd, 1) := by decide +kernel
theorem dX12_actTry_114 : decode cX12_actTry 114 = .ok (.iload 4, 2) := by decide +kernel
theorem dX12_actTry_116 : decode cX12_actTry 116 = .ok (.iadd, 1) := by decide +kernel
theorem dX12_actTry_117 : decode cX12_actTry 117 = .ok (.aload_n 0, 1) := by decide +kernel
theorem dX12_actTry_118 : decode cX12_actTry 118 = .ok (.getfield 7, 3) := by decide +kernel
theorem dX12_actTry_121 : decode cX12_actTry 121 = .ok (.bipush 61, 2) := by decide +kernel
theorem dX12_actTry_123 : decode cX12_actTry 123 = .ok (.iload 4, 2) := by decide +kernel
theorem dX12_actTry_125 : decode cX12_actTry 125 = .ok (.iadd, 1) := by decide +kernel
theorem dX12_actTry_126 : decode cX12_actTry 126 = .ok (.iaload, 1) := by decide +kernel
theorem dX12_actTry_127 : decode cX12_actTry 127 = .ok (.iastore, 1) := by decide +kernel
theorem dX12_actTry_128 : decode cX12_actTry 128 = .ok (.iinc 4 1, 3) := by decide +kernel
theorem dX12_actTry_131 : decode cX12_actTry 131 = .ok (.goto (-52), 3) := by decide +kernel
theorem dX12_actTry_134 : decode cX12_actTry 134 = .ok (.iconst 0, 1) := by decide +kernel
theorem dX12_actTry_135 : decode cX12_actTry 135 = .ok (.istore 4, 2) := by decide +kernel
theorem dX12_actTry_137 : decode cX12_actTry 137 = .ok (.iload 4, 2) := by decide +kernel
theorem dX12_actTry_139 : decode cX12_actTry 139 = .ok (.bipush 100, 2) := by decide +kernel
theorem dX12_actTry_141 : decode cX12_actTry 141 = .ok (.if_icmp .ge 32, 3) := by decide +kernel
theorem dX12_actTry_144 : decode cX12_actTry 144 = .ok (.aload_n 0, 1) := by decide +kernel
theorem dX12_actTry_145 : decode cX12_actTry 145 = .ok (.getfield 88, 3) := by decide +kernel
theorem dX12_actTry_148 : decode cX12_actTry 148 = .ok (.iload_n 3, 1) := by decide +kernel
theorem dX12_actTry_149 : decode cX12_actTry 149 = .ok (.bipush 123, 2) := by decide +kernel
theorem dX12_actTry_151 : decode cX12_actTry 151 = .ok (.iadd, 1) := by decide +kernel
theorem dX12_actTry_152 : decode cX12_actTry 152 = .ok (.iload 4, 2) := by decide +kernel
theorem dX12_actTry_154 : decode cX12_actTry 154 = .ok (.iadd, 1) := by decide +kernel
theorem dX12_actTry_155 : decode cX12_actTry 155 = .ok (.aload_n 0, 1) := by decide +kernel
theorem dX12_actTry_156 : decode cX12_actTry 156 = .ok (.getfield 7, 3) := by decide +kernel
theorem dX12_actTry_159 : decode cX12_actTry 159 = .ok (.sipush 422, 3) := by decide +kernel
theorem dX12_actTry_162 : decode cX12_actTry 162 = .ok (.iload 4, 2) := by decide +kernel
theorem dX12_actTry_164 : decode cX12_actTry 164 = .ok (.iadd, 1) := by decide +kernel
theorem dX12_actTry_165 : decode cX12_actTry 165 = .ok (.iaload, 1) := by decide +kernel
theorem dX12_actTry_166 : decode cX12_actTry 166 = .ok (.iastore, 1) := by decide +kernel
theorem dX12_actTry_167 : decode cX12_actTry 167 = .ok (.iinc 4 1, 3) := by decide +kernel
theorem dX12_actTry_170 : decode cX12_actTry 170 = .ok (.goto (-33), 3) := by decide +kernel
theorem dX12_actTry_173 : decode cX12_actTry 173 = .ok (.aload_n 0, 1) := by decide +kernel
theorem dX12_actTry_174 : decode cX12_actTry 174 = .ok (.dup, 1) := by decide +kernel
theorem dX12_actTry_175 : decode cX12_actTry 175 = .ok (.getfield 255, 3) := by decide +kernel
theorem dX12_actTry_178 : decode cX12_actTry 178 = .ok (.iconst 1, 1) := by decide +kernel
theorem dX12_actTry_179 : decode cX12_actTry 179 = .ok (.iadd, 1) := by decide +kernel
theorem dX12_actTry_180 : decode cX12_actTry 180 = .ok (.putfield 255, 3) := by decide +kernel
theorem dX12_actTry_183 : decode cX12_actTry 183 = .ok (.aload_n 0, 1) := by decide +kernel
theorem dX12_actTry_184 : decode cX12_actTry 184 = .ok (.getfield 64, 3) := by decide +kernel
theorem dX12_actTry_187 : decode cX12_actTry 187 = .ok (.aload_n 0, 1) := by decide +kernel
theorem dX12_actTry_188 : decode cX12_actTry 188 = .ok (.getfield 255, 3) := by decide +kernel
theorem dX12_actTry_191 : decode cX12_actTry 191 = .ok (.iconst 0, 1) := by decide +kernel
theorem dX12_actTry_192 : decode cX12_actTry 192 = .ok (.iastore, 1) := by decide +kernel
theorem dX12_actTry_193 : decode cX12_actTry 193 = .ok (.aload_n 0, 1) := by decide +kernel
theorem dX12_actTry_194 : decode cX12_actTry 194 = .ok (.getfield 70, 3) := by decide +kernel
theorem dX12_actTry_197 : decode cX12_actTry 197 = .ok (.aload_n 0, 1) := by decide +kernel
theorem dX12_actTry_198 : decode cX12_actTry 198 = .ok (.getfield 255, 3) := by decide +kernel
theorem dX12_actTry_201 : decode cX12_actTry 201 = .ok (.iconst 0, 1) := by decide +kernel
theorem dX12_actTry_202 : decode cX12_actTry 202 = .ok (.iastore, 1) := by decide +kernel
theorem dX12_actTry_203 : decode cX12_actTry 203 = .ok (.aload_n 0, 1) := by decide +kernel
theorem dX12_actTry_204 : decode cX12_actTry 204 = .ok (.getfield 76, 3) := by decide +kernel
theorem dX12_actTry_207 : decode cX12_actTry 207 = .ok (.aload_n 0, 1) := by decide +kernel
theorem dX12_actTry_208 : decode cX12_actTry 208 = .ok (.getfield 255, 3) := by decide +kernel
theorem dX12_actTry_211 : decode cX12_actTry 211 = .ok (.iconst 0, 1) := by decide +kernel
theorem dX12_actTry_212 : decode cX12_actTry 212 = .ok (.iastore, 1) := by decide +kernel
theorem dX12_actTry_213 : decode cX12_actTry 213 = .ok (.aload_n 0, 1) := by decide +kernel
theorem dX12_actTry_214 : decode cX12_actTry 214 = .ok (.getfield 82, 3) := by decide +kernel
theorem dX12_actTry_217 : decode cX12_actTry 217 = .ok (.aload_n 0, 1) := by decide +kernel
theorem dX12_actTry_218 : decode cX12_actTry 218 = .ok (.getfield 255, 3) := by decide +kernel
theorem dX12_actTry_221 : decode cX12_actTry 221 = .ok (.iconst 0, 1) := by decide +kernel
theorem dX12_actTry_222 : decode cX12_actTry 222 = .ok (.iastore, 1) := by decide +kernel
theorem dX12_actTry_223 : decode cX12_actTry 223 = .ok (.aload_n 0, 1) := by decide +kernel
theorem dX12_actTry_224 : decode cX12_actTry 224 = .ok (.getfield 85, 3) := by decide +kernel
theorem dX12_actTry_227 : decode cX12_actTry 227 = .ok (.aload_n 0, 1) := by decide +kernel
theorem dX12_actTry_228 : decode cX12_actTry 228 = .ok (.getfield 255, 3) := by decide +kernel
theorem dX12_actTry_231 : decode cX12_actTry 231 = .ok (.iload_n 1, 1) := by decide +kernel
theorem dX12_actTry_232 : decode cX12_actTry 232 = .ok (.iastore, 1) := by decide +kernel
theorem dX12_actTry_233 : decode cX12_actTry 233 = .ok (.aload_n 0, 1) := by decide +kernel
theorem dX12_actTry_234 : decode cX12_actTry 234 = .ok (.aload_n 0, 1) := by decide +kernel
theorem dX12_actTry_235 : decode cX12_actTry 235 = .ok (.iload_n 1, 1) := by decide +kernel
theorem dX12_actTry_236 : decode cX12_actTry 236 = .ok (.aload_n 0, 1) := by decide +kernel
theorem dX12_actTry_237 : decode cX12_actTry 237 = .ok (.getfield 19, 3) := by decide +kernel
theorem dX12_actTry_240 : decode cX12_actTry 240 = .ok (.iload_n 2, 1) := by decide +kernel
theorem dX12_actTry_241 : decode cX12_actTry 241 = .ok (.iaload, 1) := by decide +kernel
theorem dX12_actTry_242 : decode cX12_actTry 242 = .ok (.invokevirtual 261, 3) := by decide +kernel
theorem dX12_actTry_245 : decode cX12_actTry 245 = .ok (.invokevirtual 264, 3) := by decide +kernel
theorem dX12_actTry_248 : decode cX12_actTry 248 = .ok (.return_, 1) := by decide +kernel
theorem dX12_forget_0 : decode cX12_forget 0 = .ok (.aload_n 0, 1) := by decide +kernel
theorem dX12_forget_1 : decode cX12_forget 1 = .ok (.getfield 85, 3) := by decide +kernel
theorem dX12_forget_4 : decode cX12_forget 4 = .ok (.aload_n 0, 1) := by decide +kernel
theorem dX12_forget_5 : decode cX12_forget 5 = .ok (.getfield 255, 3) := by decide +kernel
theorem dX12_forget_8 : decode cX12_forget 8 = .ok (.iaload, 1) := by decide +kernel
theorem dX12_forget_9 : decode cX12_forget 9 = .ok (.istore_n 1, 1) := by decide +kernel
theorem dX12_forget_10 : decode cX12_forget 10 = .ok (.aload_n 0, 1) := by decide +kernel
theorem dX12_forget_11 : decode cX12_forget 11 = .ok (.dup, 1) := by decide +kernel
theorem dX12_forget_12 : decode cX12_forget 12 = .ok (.getfield 255, 3) := by decide +kernel
theorem dX12_forget_15 : decode cX12_forget 15 = .ok (.iconst 1, 1) := by decide +kernel
theorem dX12_forget_16 : decode cX12_forget 16 = .ok (.isub, 1) := by decide +kernel
theorem dX12_forget_17 : decode cX12_forget 17 = .ok (.putfield 255, 3) := by decide +kernel
theorem dX12_forget_20 : decode cX12_forget 20 = .ok (.aload_n 0, 1) := by decide +kernel
theorem dX12_forget_21 : decode cX12_forget 21 = .ok (.iconst 0, 1) := by decide +kernel
theorem dX12_forget_22 : decode cX12_forget 22 = .ok (.putfield 133, 3) := by decide +kernel
theorem dX12_forget_25 : decode cX12_forget 25 = .ok (.sipush 225, 3) := by decide +kernel
theorem dX12_forget_28 : decode cX12_forget 28 = .ok (.aload_n 0, 1) := by decide +kernel
theorem dX12_forget_29 : decode cX12_forget 29 = .ok (.getfield 255, 3) := by decide +kernel
theorem dX12_forget_32 : decode cX12_forget 32 = .ok (.imul, 1) := by decide +kernel
theorem dX12_forget_33 : decode cX12_forget 33 = .ok (.istore_n 2, 1) := by decide +kernel
theorem dX12_forget_34 : decode cX12_forget 34 = .ok (.iconst 0, 1) := by decide +kernel
theorem dX12_forget_35 : decode cX12_forget 35 = .ok (.istore_n 3, 1) := by decide +kernel
theorem dX12_forget_36 : decode cX12_forget 36 = .ok (.iload_n 3, 1) := by decide +kernel
theorem dX12_forget_37 : decode cX12_forget 37 = .ok (.bipush 60, 2) := by decide +kernel
theorem dX12_forget_39 : decode cX12_forget 39 = .ok (.if_icmp .ge 83, 3) := by decide +kernel
theorem dX12_forget_42 : decode cX12_forget 42 = .ok (.iload_n 3, 1) := by decide +kernel
theorem dX12_forget_43 : decode cX12_forget 43 = .ok (.aload_n 0, 1) := by decide +kernel
theorem dX12_forget_44 : decode cX12_forget 44 = .ok (.getfield 88, 3) := by decide +kernel
theorem dX12_forget_47 : decode cX12_forget 47 = .ok (.iload_n 2, 1) := by decide +kernel
theorem dX12_forget_48 : decode cX12_forget 48 = .ok (.iaload, 1) := by decide +kernel
theorem dX12_forget_49 : decode cX12_forget 49 = .ok (.if_icmp .ge 7, 3) := by decide +kernel
theorem dX12_forget_52 : decode cX12_forget 52 = .ok (.iconst 1, 1) := by decide +kernel
theorem dX12_forget_53 : decode cX12_forget 53 = .ok (.goto 4, 3) := by decide +kernel
theorem dX12_forget_56 : decode cX12_forget 56 = .ok (.iconst 0, 1) := by decide +kernel
theorem dX12_forget_57 : decode cX12_forget 57 = .ok (.istore 4, 2) := by decide +kernel
theorem dX12_forget_59 : decode cX12_forget 59 = .ok (.aload_n 0, 1) := by decide +kernel
theorem dX12_forget_60 : decode cX12_forget 60 = .ok (.getfield 7, 3) := by decide +kernel
theorem dX12_forget_63 : decode cX12_forget 63 = .ok (.iconst 1, 1) := by decide +kernel
theorem dX12_forget_64 : decode cX12_forget 64 = .ok (.iload_n 3, 1) := by decide +kernel
theorem dX12_forget_65 : decode cX12_forget 65 = .ok (.iadd, 1) := by decide +kernel
theorem dX12_forget_66 : decode cX12_forget 66 = .ok (.iload 4, 2) := by decide +kernel
theorem dX12_forget_68 : decode cX12_forget 68 = .ok (.ifCond .eq 16, 3) := by decide +kernel
theorem dX12_forget_71 : decode cX12_forget 71 = .ok (.aload_n 0, 1) := by decide +kernel
theorem dX12_forget_72 : decode cX12_forget 72 = .ok (.getfield 88, 3) := by decide +kernel
theorem dX12_forget_75 : decode cX12_forget 75 = .ok (.iload_n 2, 1) := by decide +kernel
theorem dX12_forget_76 : decode cX12_forget 76 = .ok (.iconst 3, 1) := by decide +kernel
theorem dX12_forget_77 : decode cX12_forget 77 = .ok (.iadd, 1) := by decide +kernel
theorem dX12_forget_78 : decode cX12_forget 78 = .ok (.iload_n 3, 1) := by decide +kernel
theorem dX12_forget_79 : decode cX12_forget 79 = .ok (.iadd, 1) := by decide +kernel
theorem dX12_forget_80 : decode cX12_forget 80 = .ok (.iaload, 1) := by decide +kernel
theorem dX12_forget_81 : decode cX12_forget 81 = .ok (.goto 4, 3) := by decide +kernel
theorem dX12_forget_84 : decode cX12_forget 84 = .ok (.iload_n 3, 1) := by decide +kernel
theorem dX12_forget_85 : decode cX12_forget 85 = .ok (.iastore, 1) := by decide +kernel
theorem dX12_forget_86 : decode cX12_forget 86 = .ok (.aload_n 0, 1) := by decide +kernel
theorem dX12_forget_87 : decode cX12_forget 87 = .ok (.getfield 7, 3) := by decide +kernel
theorem dX12_forget_90 : decode cX12_forget 90 = .ok (.bipush 61, 2) := by decide +kernel
theorem dX12_forget_92 : decode cX12_forget 92 = .ok (.iload_n 3, 1) := by decide +kernel
theorem dX12_forget_93 : decode cX12_forget 93 = .ok (.iadd, 1) := by decide +kernel
theorem dX12_forget_94 : decode cX12_forget 94 = .ok (.iload 4, 2) := by decide +kernel
theorem dX12_forget_96 : decode cX12_forget 96 = .ok (.ifCond .eq 17, 3) := by decide +kernel
theorem dX12_forget_99 : decode cX12_forget 99 = .ok (.aload_n 0, 1) := by decide +kernel
theorem dX12_forget_100 : decode cX12_forget 100 = .ok (.getfield 88, 3) := by decide +kernel
theorem dX12_forget_103 : decode cX12_forget 103 = .ok (.iload_n 2, 1) := by decide +kernel
theorem dX12_forget_104 : decode cX12_forget 104 = .ok (.bipush 63, 2) := by decide +kernel
theorem dX12_forget_106 : decode cX12_forget 106 = .ok (.iadd, 1) := by decide +kernel
theorem dX12_forget_107 : decode cX12_forget 107 = .ok (.iload_n 3, 1) := by decide +kernel
theorem dX12_forget_108 : decode cX12_forget 108 = .ok (.iadd, 1) := by decide +kernel
theorem dX12_forget_109 : decode cX12_forget 109 = .ok (.iaload, 1) := by decide +kernel
theorem dX12_forget_110 : decode cX12_forget 110 = .ok (.goto 5, 3) := by decide +kernel
theorem dX12_forget_113 : decode cX12_forget 113 = .ok (.bipush 100, 2) := by decide +kernel
theorem dX12_forget_115 : decode cX12_forget 115 = .ok (.iastore, 1) := by decide +kernel
theorem dX12_forget_116 : decode cX12_forget 116 = .ok (.iinc 3 1, 3) := by decide +kernel
theorem dX12_forget_119 : decode cX12_forget 119 = .ok (.goto (-83), 3) := by decide +kernel
theorem dX12_forget_122 : decode cX12_forget 122 = .ok (.iconst 0, 1) := by decide +kernel
theorem dX12_forget_123 : decode cX12_forget 123 = .ok (.istore_n 3, 1) := by decide +kernel
theorem dX12_forget_124 : decode cX12_forget 124 = .ok (.iload_n 3, 1) := by decide +kernel
theorem dX12_forget_125 : decode cX12_forget 125 = .ok (.bipush 100, 2) := by decide +kernel
theorem dX12_forget_127 : decode cX12_forget 127 = .ok (.if_icmp .ge 46, 3) := by decide +kernel
theorem dX12_forget_130 : decode cX12_forget 130 = .ok (.aload_n 0, 1) := by decide +kernel
theorem dX12_forget_131 : decode cX12_forget 131 = .ok (.getfield 7, 3) := by decide +kernel
theorem dX12_forget_134 : decode cX12_forget 134 = .ok (.sipush 422, 3) := by decide +kernel
theorem dX12_forget_137 : decode cX12_forget 137 = .ok (.iload_n 3, 1) := by decide +kernel
theorem dX12_forget_138 : decode cX12_forget 138 = .ok (.iadd, 1) := by decide +kernel
theorem dX12_forget_139 : decode cX12_forget 139 = .ok (.iload_n 3, 1) := by decide +kernel
theorem dX12_forget_140 : decode cX12_forget 140 = .ok (.aload_n 0, 1) := by decide +kernel
theorem dX12_forget_141 : decode cX12_forget 141 = .ok (.getfield 88, 3) := by decide +kernel
theorem dX12_forget_144 : decode cX12_forget 144 = .ok (.iload_n 2, 1) := by decide +kernel
theorem dX12_forget_145 : decode cX12_forget 145 = .ok (.iconst 1, 1) := by decide +kernel
theorem dX12_forget_146 : decode cX12_forget 146 = .ok (.iadd, 1) := by decide +kernel
theorem dX12_forget_147 : decode cX12_forget 147 = .ok (.iaload, 1) := by decide +kernel
theorem dX12_forget_148 : decode cX12_forget 148 = .ok (.if_icmp .ge 17, 3) := by decide +kernel
theorem dX12_forget_151 : decode cX12_forget 151 = .ok (.aload_n 0, 1) := by decide +kernel
theorem dX12_forget_152 : decode cX12_forget 152 = .ok (.getfield 88, 3) := by decide +kernel
theorem dX12_forget_155 : decode cX12_forget 155 = .ok (.iload_n 2, 1) := by decide +kernel
theorem dX12_forget_156 : decode cX12_forget 156 = .ok (.bipush 123, 2) := by decide +kernel
theorem dX12_forget_158 : decode cX12_forget 158 = .ok (.iadd, 1) := by decide +kernel
theorem dX12_forget_159 : decode cX12_forget 159 = .ok (.iload_n 3, 1) := by decide +kernel
theorem dX12_forget_160 : decode cX12_forget 160 = .ok (.iadd, 1) := by decide +kernel
theorem dX12_forget_161 : decode cX12_forget 161 = .ok (.iaload, 1) := by decide +kernel
theorem dX12_forget_162 : decode cX12_forget 162 = .ok (.goto 4, 3) := by decide +kernel
theorem dX12_forget_165 : decode cX12_forget 165 = .ok (.iconst 0, 1) := by decide +kernel
theorem dX12_forget_166 : decode cX12_forget 166 = .ok (.iastore, 1) := by decide +kernel
theorem dX12_forget_167 : decode cX12_forget 167 = .ok (.iinc 3 1, 3) := by decide +kernel
theorem dX12_forget_170 : decode cX12_forget 170 = .ok (.goto (-46), 3) := by decide +kernel
theorem dX12_forget_173 : decode cX12_forget 173 = .ok (.aload_n 0, 1) := by decide +kernel
theorem dX12_forget_174 : decode cX12_forget 174 = .ok (.getfield 7, 3) := by decide +kernel
theorem dX12_forget_177 : decode cX12_forget 177 = .ok (.sipush 1022, 3) := by decide +kernel
theorem dX12_forget_180 : decode cX12_forget 180 = .ok (.aload_n 0, 1) := by decide +kernel
theorem dX12_forget_181 : decode cX12_forget 181 = .ok (.getfield 88, 3) := by decide +kernel
theorem dX12_forget_184 : decode cX12_forget 184 = .ok (.iload_n 2, 1) := by decide +kernel
theorem dX12_forget_185 : decode cX12_forget 185 = .ok (.iconst 2, 1) := by decide +kernel
theorem dX12_forget_186 : decode cX12_forget 186 = .ok (.iadd, 1) := by decide +kernel
theorem dX12_forget_187 : decode cX12_forget 187 = .ok (.iaload, 1) := by decide +kernel
theorem dX12_forget_188 : decode cX12_forget 188 = .ok (.iastore, 1) := by decide +kernel
theorem dX12_forget_189 : decode cX12_forget 189 = .ok (.aload_n 0, 1) := by decide +kernel
theorem dX12_forget_190 : decode cX12_forget 190 = .ok (.aload_n 0, 1) := by decide +kernel
theorem dX12_forget_191 : decode cX12_forget 191 = .ok (.iload_n 1, 1) := by decide +kernel
theorem dX12_forget_192 : decode cX12_forget 192 = .ok (.aload_n 0, 1) := by decide +kernel
theorem dX12_forget_193 : decode cX12_forget 193 = .ok (.getfield 22, 3) := by decide +kernel
theorem dX12_forget_196 : decode cX12_forget 196 = .ok (.aload_n 0, 1) := by decide +kernel
theorem dX12_forget_197 : decode cX12_forget 197 = .ok (.getfield 58, 3) := by decide +kernel
theorem dX12_forget_200 : decode cX12_forget 200 = .ok (.bipush 9, 2) := by decide +kernel
theorem dX12_forget_202 : decode cX12_forget 202 = .ok (.iload_n 1, 1) := by decide +kernel
theorem dX12_forget_203 : decode cX12_forget 203 = .ok (.imul, 1) := by decide +kernel
theorem dX12_forget_204 : decode cX12_forget 204 = .ok (.iaload, 1) := by decide +kernel
theorem dX12_forget_205 : decode cX12_forget 205 = .ok (.iaload, 1) := by decide +kernel
theorem dX12_forget_206 : decode cX12_forget 206 = .ok (.invokevirtual 261, 3) := by decide +kernel
theorem dX12_forget_209 : decode cX12_forget 209 = .ok (.invokevirtual 264, 3) := by decide +kernel
theorem dX12_forget_212 : decode cX12_forget 212 = .ok (.return_, 1) := by decide +kernel
theorem dX12_act_0 : decode cX12_act 0 = .ok (.aload_n 0, 1) := by decide +kernel
theorem dX12_act_1 : decode cX12_act 1 = .ok (.getfield 181, 3) := by decide +kernel
theorem dX12_act_4 : decode cX12_act 4 = .ok (.bipush 60, 2) := by decide +kernel
theorem dX12_act_6 : decode cX12_act 6 = .ok (.if_icmp .ne 9, 3) := by decide +kernel
theorem dX12_act_9 : decode cX12_act 9 = .ok (.aload_n 0, 1) := by decide +kernel
theorem dX12_act_10 : decode cX12_act 10 = .ok (.iconst 1, 1) := by decide +kernel
theorem dX12_act_11 : decode cX12_act 11 = .ok (.putfield 133, 3) := by decide +kernel
theorem dX12_act_14 : decode cX12_act 14 = .ok (.return_, 1) := by decide +kernel
theorem dX12_act_15 : decode cX12_act 15 = .ok (.aload_n 0, 1) := by decide +kernel
theorem dX12_act_16 : decode cX12_act 16 = .ok (.dup, 1) := by decide +kernel
theorem dX12_act_17 : decode cX12_act 17 = .ok (.getfield 181, 3) := by decide +kernel
theorem dX12_act_20 : decode cX12_act 20 = .ok (.iconst 1, 1) := by decide +kernel
theorem dX12_act_21 : decode cX12_act 21 = .ok (.iadd, 1) := by decide +kernel
theorem dX12_act_22 : decode cX12_act 22 = .ok (.putfield 181, 3) := by decide +kernel
theorem dX12_act_25 : decode cX12_act 25 = .ok (.aload_n 0, 1) := by decide +kernel
theorem dX12_act_26 : decode cX12_act 26 = .ok (.getfield 58, 3) := by decide +kernel
theorem dX12_act_29 : decode cX12_act 29 = .ok (.bipush 9, 2) := by decide +kernel
theorem dX12_act_31 : decode cX12_act 31 = .ok (.iload_n 1, 1) := by decide +kernel
theorem dX12_act_32 : decode cX12_act 32 = .ok (.imul, 1) := by decide +kernel
theorem dX12_act_33 : decode cX12_act 33 = .ok (.iaload, 1) := by decide +kernel
theorem dX12_act_34 : decode cX12_act 34 = .ok (.istore_n 2, 1) := by decide +kernel
theorem dX12_act_35 : decode cX12_act 35 = .ok (.aload_n 0, 1) := by decide +kernel
theorem dX12_act_36 : decode cX12_act 36 = .ok (.getfield 16, 3) := by decide +kernel
theorem dX12_act_39 : decode cX12_act 39 = .ok (.iload_n 2, 1) := by decide +kernel
theorem dX12_act_40 : decode cX12_act 40 = .ok (.iaload, 1) := by decide +kernel
theorem dX12_act_41 : decode cX12_act 41 = .ok (.istore_n 3, 1) := by decide +kernel
theorem dX12_act_42 : decode cX12_act 42 = .ok (.iload_n 3, 1) := by decide +kernel
theorem dX12_act_43 : decode cX12_act 43 = .ok (.ifCond .ne 36, 3) := by decide +kernel
theorem dX12_act_46 : decode cX12_act 46 = .ok (.aload_n 0, 1) := by decide +kernel
theorem dX12_act_47 : decode cX12_act 47 = .ok (.aload_n 0, 1) := by decide +kernel
theorem dX12_act_48 : decode cX12_act 48 = .ok (.iload_n 1, 1) := by decide +kernel
theorem dX12_act_49 : decode cX12_act 49 = .ok (.aload_n 0, 1) := by decide +kernel
theorem dX12_act_50 : decode cX12_act 50 = .ok (.getfield 19, 3) := by decide +kernel
theorem dX12_act_53 : decode cX12_act 53 = .ok (.iload_n 2, 1) := by decide +kernel
theorem dX12_act_54 : decode cX12_act 54 = .ok (.iaload, 1) := by decide +kernel
theorem dX12_act_55 : decode cX12_act 55 = .ok (.invokevirtual 258, 3) := by decide +kernel
theorem dX12_act_58 : decode cX12_act 58 = .ok (.aload_n 0, 1) := by decide +kernel
theorem dX12_act_59 : decode cX12_act 59 = .ok (.iload_n 1, 1) := by decide +kernel
theorem dX12_act_60 : decode cX12_act 60 = .ok (.aload_n 0, 1) := by decide +kernel
theorem dX12_act_61 : decode cX12_act 61 = .ok (.getfield 22, 3) := by decide +kernel
theorem dX12_act_64 : decode cX12_act 64 = .ok (.iload_n 2, 1) := by decide +kernel
theorem dX12_act_65 : decode cX12_act 65 = .ok (.iaload, 1) := by decide +kernel
theorem dX12_act_66 : decode cX12_act 66 = .ok (.invokevirtual 258, 3) := by decide +kernel
theorem dX12_act_69 : decode cX12_act 69 = .ok (.invokevirtual 197, 3) := by decide +kernel
theorem dX12_act_72 : decode cX12_act 72 = .ok (.aload_n 0, 1) := by decide +kernel
theorem dX12_act_73 : decode cX12_act 73 = .ok (.invokevirtual 291, 3) := by decide +kernel
theorem dX12_act_76 : decode cX12_act 76 = .ok (.goto 454, 3) := by decide +kernel
theorem dX12_act_79 : decode cX12_act 79 = .ok (.iload_n 3, 1) := by decide +kernel
theorem dX12_act_80 : decode cX12_act 80 = .ok (.iconst 1, 1) := by decide +kernel
theorem dX12_act_81 : decode cX12_act 81 = .ok (.if_icmp .ne 93, 3) := by decide +kernel
theorem dX12_act_84 : decode cX12_act 84 = .ok (.iconst 0, 1) := by decide +kernel
theorem dX12_act_85 : decode cX12_act 85 = .ok (.istore 4, 2) := by decide +kernel
theorem dX12_act_87 : decode cX12_act 87 = .ok (.iload 4, 2) := by decide +kernel
theorem dX12_act_89 : decode cX12_act 89 = .ok (.iconst 4, 1) := by decide +kernel
theorem dX12_act_90 : decode cX12_act 90 = .ok (.if_icmp .ge 30, 3) := by decide +kernel
theorem dX12_act_93 : decode cX12_act 93 = .ok (.aload_n 0, 1) := by decide +kernel
theorem dX12_act_94 : decode cX12_act 94 = .ok (.getfield 97, 3) := by decide +kernel
theorem dX12_act_97 : decode cX12_act 97 = .ok (.iload 4, 2) := by decide +kernel
theorem dX12_act_99 : decode cX12_act 99 = .ok (.aload_n 0, 1) := by decide +kernel
theorem dX12_act_100 : decode cX12_act 100 = .ok (.getfield 58, 3) := by decide +kernel
theorem dX12_act_103 : decode cX12_act 103 = .ok (.bipush 9, 2) := by decide +kernel
theorem dX12_act_105 : decode cX12_act 105 = .ok (.iload_n 1, 1) := by decide +kernel
theorem dX12_act_106 : decode cX12_act 106 = .ok (.imul, 1) := by decide +kernel
theorem dX12_act_107 : decode cX12_act 107 = .ok (.iconst 5, 1) := by decide +kernel
theorem dX12_act_108 : decode cX12_act 108 = .ok (.iadd, 1) := by decide +kernel
theorem dX12_act_109 : decode cX12_act 109 = .ok (.iload 4, 2) := by decide +kernel
theorem dX12_act_111 : decode cX12_act 111 = .ok (.iadd, 1) := by decide +kernel
theorem dX12_act_112 : decode cX12_act 112 = .ok (.iaload, 1) := by decide +kernel
theorem dX12_act_113 : decode cX12_act 113 = .ok (.iastore, 1) := by decide +kernel
theorem dX12_act_114 : decode cX12_act 114 = .ok (.iinc 4 1, 3) := by decide +kernel
theorem dX12_act_117 : decode cX12_act 117 = .ok (.goto (-30), 3) := by decide +kernel
theorem dX12_act_120 : decode cX12_act 120 = .ok (.aload_n 0, 1) := by decide +kernel
theorem dX12_act_121 : decode cX12_act 121 = .ok (.aload_n 0, 1) := by decide +kernel
theorem dX12_act_122 : decode cX12_act 122 = .ok (.getfield 19, 3) := by decide +kernel
theorem dX12_act_125 : decode cX12_act 125 = .ok (.iload_n 2, 1) := by decide +kernel
theorem dX12_act_126 : decode cX12_act 126 = .ok (.iaload, 1) := by decide +kernel
theorem dX12_act_127 : decode cX12_act 127 = .ok (.aload_n 0, 1) := by decide +kernel
theorem dX12_act_128 : decode cX12_act 128 = .ok (.iload_n 1, 1) := by decide +kernel
theorem dX12_act_129 : decode cX12_act 129 = .ok (.aload_n 0, 1) := by decide +kernel
theorem dX12_act_130 : decode cX12_act 130 = .ok (.getfield 22, 3) := by decide +kernel
theorem dX12_act_133 : decode cX12_act 133 = .ok (.iload_n 2, 1) := by decide +kernel
theorem dX12_act_134 : decode cX12_act 134 = .ok (.iaload, 1) := by decide +kernel
theorem dX12_act_135 : decode cX12_act 135 = .ok (.invokevirtual 258, 3) := by decide +kernel
theorem dX12_act_138 : decode cX12_act 138 = .ok (.aload_n 0, 1) := by decide +kernel
theorem dX12_act_139 : decode cX12_act 139 = .ok (.iload_n 1, 1) := by decide +kernel
theorem dX12_act_140 : decode cX12_act 140 = .ok (.aload_n 0, 1) := by decide +kernel
theorem dX12_act_141 : decode cX12_act 141 = .ok (.getfield 25, 3) := by decide +kernel
theorem dX12_act_144 : decode cX12_act 144 = .ok (.iload_n 2, 1) := by decide +kernel
theorem dX12_act_145 : decode cX12_act 145 = .ok (.iaload, 1) := by decide +kernel
theorem dX12_act_146 : decode cX12_act 146 = .ok (.invokevirtual 258, 3) := by decide +kernel
theorem dX12_act_149 : decode cX12_act 149 = .ok (.aload_n 0, 1) := by decide +kernel
theorem dX12_act_150 : decode cX12_act 150 = .ok (.getfield 28, 3) := by decide +kernel
theorem dX12_act_153 : decode cX12_act 153 = .ok (.iload_n 2, 1) := by decide +kernel
theorem dX12_act_154 : decode cX12_act 154 = .ok (.iaload, 1) := by decide +kernel
theorem dX12_act_155 : decode cX12_act 155 = .ok (.iconst 1, 1) := by decide +kernel
theorem dX12_act_156 : decode cX12_act 156 = .ok (.if_icmp .ne 7, 3) := by decide +kernel
theorem dX12_act_159 : decode cX12_act 159 = .ok (.iconst 1, 1) := by decide +kernel
theorem dX12_act_160 : decode cX12_act 160 = .ok (.goto 4, 3) := by decide +kernel
theorem dX12_act_163 : decode cX12_act 163 = .ok (.iconst 0, 1) := by decide +kernel
theorem dX12_act_164 : decode cX12_act 164 = .ok (.invokevirtual 201, 3) := by decide +kernel
theorem dX12_act_167 : decode cX12_act 167 = .ok (.aload_n 0, 1) := by decide +kernel
theorem dX12_act_168 : decode cX12_act 168 = .ok (.invokevirtual 291, 3) := by decide +kernel
theorem dX12_act_171 : decode cX12_act 171 = .ok (.goto 359, 3) := by decide +kernel
theorem dX12_act_174 : decode cX12_act 174 = .ok (.iload_n 3, 1) := by decide +kernel
theorem dX12_act_175 : decode cX12_act 175 = .ok (.iconst 2, 1) := by decide +kernel
theorem dX12_act_176 : decode cX12_act 176 = .ok (.if_icmp .ne 36, 3) := by decide +kernel
theorem dX12_act_179 : decode cX12_act 179 = .ok (.aload_n 0, 1) := by decide +kernel
theorem dX12_act_180 : decode cX12_act 180 = .ok (.aload_n 0, 1) := by decide +kernel
theorem dX12_act_181 : decode cX12_act 181 = .ok (.iload_n 1, 1) := by decide +kernel
theorem dX12_act_182 : decode cX12_act 182 = .ok (.aload_n 0, 1) := by decide +kernel
theorem dX12_act_183 : decode cX12_act 183 = .ok (.getfield 19, 3) := by decide +kernel
theorem dX12_act_186 : decode cX12_act 186 = .ok (.iload_n 2, 1) := by decide +kernel
theorem dX12_act_187 : decode cX12_act 187 = .ok (.iaload, 1) := by decide +kernel
theorem dX12_act_188 : decode cX12_act 188 = .ok (.invokevirtual 261, 3) := by decide +kernel
theorem dX12_act_191 : decode cX12_act 191 = .ok (.invokevirtual 264, 3) := by decide +kernel
theorem dX12_act_194 : decode cX12_act 194 = .ok (.aload_n 0, 1) := by decide +kernel
theorem dX12_act_195 : decode cX12_act 195 = .ok (.aload_n 0, 1) := by decide +kernel
theorem dX12_act_196 : decode cX12_act 196 = .ok (.iload_n 1, 1) := by decide +kernel
theorem dX12_act_197 : decode cX12_act 197 = .ok (.aload_n 0, 1) := by decide +kernel
theorem dX12_act_198 : decode cX12_act 198 = .ok (.getfield 22, 3) := by decide +kernel
theorem dX12_act_201 : decode cX12_act 201 = .ok (.iload_n 2, 1) := by decide +kernel
theorem dX12_act_202 : decode cX12_act 202 = .ok (.iaload, 1) := by decide +kernel
theorem dX12_act_203 : decode cX12_act 203 = .ok (.invokevirtual 261, 3) := by decide +kernel
theorem dX12_act_206 : decode cX12_act 206 = .ok (.invokevirtual 264, 3) := by decide +kernel
theorem dX12_act_209 : decode cX12_act 209 = .ok (.goto 321, 3) := by decide +kernel
theorem dX12_act_212 : decode cX12_act 212 = .ok (.iload_n 3, 1) := by decide +kernel
theorem dX12_act_213 : decode cX12_act 213 = .ok (.iconst 3, 1) := by decide +kernel
theorem dX12_act_214 : decode cX12_act 214 = .ok (.if_icmp .ne 29, 3) := by decide +kernel
theorem dX12_act_217 : decode cX12_act 217 = .ok (.aload_n 0, 1) := by decide +kernel
theorem dX12_act_218 : decode cX12_act 218 = .ok (.iload_n 1, 1) := by decide +kernel
theorem dX12_act_219 : decode cX12_act 219 = .ok (.iload_n 2, 1) := by decide +kernel
theorem dX12_act_220 : decode cX12_act 220 = .ok (.invokevirtual 267, 3) := by decide +kernel
theorem dX12_act_223 : decode cX12_act 223 = .ok (.ifCond .eq 12, 3) := by decide +kernel
theorem dX12_act_226 : decode cX12_act 226 = .ok (.aload_n 0, 1) := by decide +kernel
theorem dX12_act_227 : decode cX12_act 227 = .ok (.iload_n 1, 1) := by decide +kernel
theorem dX12_act_228 : decode cX12_act 228 = .ok (.iload_n 2, 1) := by decide +kernel
theorem dX12_act_229 : decode cX12_act 229 = .ok (.invokevirtual 276, 3) := by decide +kernel
theorem dX12_act_232 : decode cX12_act 232 = .ok (.goto 298, 3) := by decide +kernel
theorem dX12_act_235 : decode cX12_act 235 = .ok (.aload_n 0, 1) := by decide +kernel
theorem dX12_act_236 : decode cX12_act 236 = .ok (.iload_n 1, 1) := by decide +kernel
theorem dX12_act_237 : decode cX12_act 237 = .ok (.invokevirtual 273, 3) := by decide +kernel
theorem dX12_act_240 : decode cX12_act 240 = .ok (.goto 290, 3) := by decide +kernel
theorem dX12_act_243 : decode cX12_act 243 = .ok (.iload_n 3, 1) := by decide +kernel
theorem dX12_act_244 : decode cX12_act 244 = .ok (.iconst 4, 1) := by decide +kernel
theorem dX12_act_245 : decode cX12_act 245 = .ok (.if_icmp .ne 12, 3) := by decide +kernel
theorem dX12_act_248 : decode cX12_act 248 = .ok (.aload_n 0, 1) := by decide +kernel
theorem dX12_act_249 : decode cX12_act 249 = .ok (.iload_n 1, 1) := by decide +kernel
theorem dX12_act_250 : decode cX12_act 250 = .ok (.iload_n 2, 1) := by decide +kernel
theorem dX12_act_251 : decode cX12_act 251 = .ok (.invokevirtual 294, 3) := by decide +kernel
theorem dX12_act_254 : decode cX12_act 254 = .ok (.goto 276, 3) := by decide +kernel
theorem dX12_act_257 : decode cX12_act 257 = .ok (.iload_n 3, 1) := by decide +kernel
theorem dX12_act_258 : decode cX12_act 258 = .ok (.iconst 5, 1) := by decide +kernel
theorem dX12_act_259 : decode cX12_act 259 = .ok (.if_icmp .ne 63, 3) := by decide +kernel
theorem dX12_act_262 : decode cX12_act 262 = .ok (.aload_n 0, 1) := by decide +kernel
theorem dX12_act_263 : decode cX12_act 263 = .ok (.invokevirtual 141, 3) := by decide +kernel
theorem dX12_act_266 : decode cX12_act 266 = .ok (.istore 4, 2) := by decide +kernel
theorem dX12_act_268 : decode cX12_act 268 = .ok (.aload_n 0, 1) := by decide +kernel
theorem dX12_act_269 : decode cX12_act 269 = .ok (.getfield 133, 3) := by decide +kernel
theorem dX12_act_272 : decode cX12_act 272 = .ok (.ifCond .ne 47, 3) := by decide +kernel
theorem dX12_act_275 : decode cX12_act 275 = .ok (.aload_n 0, 1) := by decide +kernel
theorem dX12_act_276 : decode cX12_act 276 = .ok (.iload_n 1, 1) := by decide +kernel
theorem dX12_act_277 : decode cX12_act 277 = .ok (.aload_n 0, 1) := by decide +kernel
theorem dX12_act_278 : decode cX12_act 278 = .ok (.getfield 22, 3) := by decide +kernel
theorem dX12_act_281 : decode cX12_act 281 = .ok (.iload_n 2, 1) := by decide +kernel
theorem dX12_act_282 : decode cX12_act 282 = .ok (.iaload, 1) := by decide +kernel
theorem dX12_act_283 : decode cX12_act 283 = .ok (.invokevirtual 261, 3) := by decide +kernel
theorem dX12_act_286 : decode cX12_act 286 = .ok (.istore 5, 2) := by decide +kernel
theorem dX12_act_288 : decode cX12_act 288 = .ok (.aload_n 0, 1) := by decide +kernel
theorem dX12_act_289 : decode cX12_act 289 = .ok (.getfield 58, 3) := by decide +kernel
theorem dX12_act_292 : decode cX12_act 292 = .ok (.bipush 9, 2) := by decide +kernel
theorem dX12_act_294 : decode cX12_act 294 = .ok (.iload 5, 2) := by decide +kernel
theorem dX12_act_296 : decode cX12_act 296 = .ok (.imul, 1) := by decide +kernel
theorem dX12_act_297 : decode cX12_act 297 = .ok (.iconst 1, 1) := by decide +kernel
theorem dX12_act_298 : decode cX12_act 298 = .ok (.iadd, 1) := by decide +kernel
theorem dX12_act_299 : decode cX12_act 299 = .ok (.aload_n 0, 1) := by decide +kernel
theorem dX12_act_300 : decode cX12_act 300 = .ok (.getfield 19, 3) := by decide +kernel
theorem dX12_act_303 : decode cX12_act 303 = .ok (.iload_n 2, 1) := by decide +kernel
theorem dX12_act_304 : decode cX12_act 304 = .ok (.iaload, 1) := by decide +kernel
theorem dX12_act_305 : decode cX12_act 305 = .ok (.iadd, 1) := by decide +kernel
theorem dX12_act_306 : decode cX12_act 306 = .ok (.sipush 400, 3) := by decide +kernel
theorem dX12_act_309 : decode cX12_act 309 = .ok (.iload 4, 2) := by decide +kernel
theorem dX12_act_311 : decode cX12_act 311 = .ok (.iadd, 1) := by decide +kernel
theorem dX12_act_312 : decode cX12_act 312 = .ok (.iastore, 1) := by decide +kernel
theorem dX12_act_313 : decode cX12_act 313 = .ok (.aload_n 0, 1) := by decide +kernel
theorem dX12_act_314 : decode cX12_act 314 = .ok (.iload 5, 2) := by decide +kernel
theorem dX12_act_316 : decode cX12_act 316 = .ok (.invokevirtual 264, 3) := by decide +kernel
theorem dX12_act_319 : decode cX12_act 319 = .ok (.goto 211, 3) := by decide +kernel
theorem dX12_act_322 : decode cX12_act 322 = .ok (.iload_n 3, 1) := by decide +kernel
theorem dX12_act_323 : decode cX12_act 323 = .ok (.bipush 6, 2) := by decide +kernel
theorem dX12_act_325 : decode cX12_act 325 = .ok (.if_icmp .ne 117, 3) := by decide +kernel
theorem dX12_act_328 : decode cX12_act 328 = .ok (.aload_n 0, 1) := by decide +kernel
theorem dX12_act_329 : decode cX12_act 329 = .ok (.getfield 31, 3) := by decide +kernel
theorem dX12_act_332 : decode cX12_act 332 = .ok (.aload_n 0, 1) := by decide +kernel
theorem dX12_act_333 : decode cX12_act 333 = .ok (.getfield 19, 3) := by decide +kernel
theorem dX12_act_336 : decode cX12_act 336 = .ok (.iload_n 2, 1) := by decide +kernel
theorem dX12_act_337 : decode cX12_act 337 = .ok (.iaload, 1) := by decide +kernel
theorem dX12_act_338 : decode cX12_act 338 = .ok (.iaload, 1) := by decide +kernel
theorem dX12_act_339 : decode cX12_act 339 = .ok (.iconst (-1), 1) := by decide +kernel
theorem dX12_act_340 : decode cX12_act 340 = .ok (.if_icmp .eq 190, 3) := by decide +kernel
theorem dX12_act_343 : decode cX12_act 343 = .ok (.aload_n 0, 1) := by decide +kernel
theorem dX12_act_344 : decode cX12_act 344 = .ok (.iload_n 1, 1) := by decide +kernel
theorem dX12_act_345 : decode cX12_act 345 = .ok (.aload_n 0, 1) := by decide +kernel
theorem dX12_act_346 : decode cX12_act 346 = .ok (.getfield 31, 3) := by decide +kernel
theorem dX12_act_349 : decode cX12_act 349 = .ok (.aload_n 0, 1) := by decide +kernel
theorem dX12_act_350 : decode cX12_act 350 = .ok (.getfield 19, 3) := by decide +kernel
theorem dX12_act_353 : decode cX12_act 353 = .ok (.iload_n 2, 1) := by decide +kernel
theorem dX12_act_354 : decode cX12_act 354 = .ok (.iaload, 1) := by decide +kernel
theorem dX12_act_355 : decode cX12_act 355 = .ok (.iaload, 1) := by decide +kernel
theorem dX12_act_356 : decode cX12_act 356 = .ok (.invokevirtual 261, 3) := by decide +kernel
theorem dX12_act_359 : decode cX12_act 359 = .ok (.istore 4, 2) := by decide +kernel
theorem dX12_act_361 : decode cX12_act 361 = .ok (.aload_n 0, 1) := by decide +kernel
theorem dX12_act_362 : decode cX12_act 362 = .ok (.getfield 58, 3) := by decide +kernel
theorem dX12_act_365 : decode cX12_act 365 = .ok (.bipush 9, 2) := by decide +kernel
theorem dX12_act_367 : decode cX12_act 367 = .ok (.iload 4, 2) := by decide +kernel
theorem dX12_act_369 : decode cX12_act 369 = .ok (.imul, 1) := by decide +kernel
theorem dX12_act_370 : decode cX12_act 370 = .ok (.iconst 1, 1) := by decide +kernel
theorem dX12_act_371 : decode cX12_act 371 = .ok (.iadd, 1) := by decide +kernel
theorem dX12_act_372 : decode cX12_act 372 = .ok (.aload_n 0, 1) := by decide +kernel
theorem dX12_act_373 : decode cX12_act 373 = .ok (.iload_n 1, 1) := by decide +kernel
theorem dX12_act_374 : decode cX12_act 374 = .ok (.aload_n 0, 1) := by decide +kernel
theorem dX12_act_375 : decode cX12_act 375 = .ok (.getfield 22, 3) := by decide +kernel
theorem dX12_act_378 : decode cX12_act 378 = .ok (.iload_n 2, 1) := by decide +kernel
theorem dX12_act_379 : decode cX12_act 379 = .ok (.iaload, 1) := by decide +kernel
theorem dX12_act_380 : decode cX12_act 380 = .ok (.invokevirtual 258, 3) := by decide +kernel
theorem dX12_act_383 : decode cX12_act 383 = .ok (.iastore, 1) := by decide +kernel
theorem dX12_act_384 : decode cX12_act 384 = .ok (.aload_n 0, 1) := by decide +kernel
theorem dX12_act_385 : decode cX12_act 385 = .ok (.getfield 58, 3) := by decide +kernel
theorem dX12_act_388 : decode cX12_act 388 = .ok (.bipush 9, 2) := by decide +kernel
theorem dX12_act_390 : decode cX12_act 390 = .ok (.iload 4, 2) := by decide +kernel
theorem dX12_act_392 : decode cX12_act 392 = .ok (.imul, 1) := by decide +kernel
theorem dX12_act_393 : decode cX12_act 393 = .ok (.iconst 2, 1) := by decide +kernel
theorem dX12_act_394 : decode cX12_act 394 = .ok (.iadd, 1) := by decide +kernel
theorem dX12_act_395 : decode cX12_act 395 = .ok (.aload_n 0, 1) := by decide +kernel
theorem dX12_act_396 : decode cX12_act 396 = .ok (.iload_n 1, 1) := by decide +kernel
theorem dX12_act_397 : decode cX12_act 397 = .ok (.aload_n 0, 1) := by decide +kernel
theorem dX12_act_398 : decode cX12_act 398 = .ok (.getfield 25, 3) := by decide +kernel
theorem dX12_act_401 : decode cX12_act 401 = .ok (.iload_n 2, 1) := by decide +kernel
theorem dX12_act_402 : decode cX12_act 402 = .ok (.iaload, 1) := by decide +kernel
theorem dX12_act_403 : decode cX12_act 403 = .ok (.invokevirtual 258, 3) := by decide +kernel
theorem dX12_act_406 : decode cX12_act 406 = .ok (.iastore, 1) := by decide +kernel
theorem dX12_act_407 : decode cX12_act 407 = .ok (.aload_n 0, 1) := by decide +kernel
theorem dX12_act_408 : decode cX12_act 408 = .ok (.getfield 58, 3) := by decide +kernel
theorem dX12_act_411 : decode cX12_act 411 = .ok (.bipush 9, 2) := by decide +kernel
theorem dX12_act_413 : decode cX12_act 413 = .ok (.iload 4, 2) := by decide +kernel
theorem dX12_act_415 : decode cX12_act 415 = .ok (.imul, 1) := by decide +kernel
theorem dX12_act_416 : decode cX12_act 416 = .ok (.iconst 3, 1) := by decide +kernel
theorem dX12_act_417 : decode cX12_act 417 = .ok (.iadd, 1) := by decide +kernel
theorem dX12_act_418 : decode cX12_act 418 = .ok (.iconst 0, 1) := by decide +kernel
theorem dX12_act_419 : decode cX12_act 419 = .ok (.iastore, 1) := by decide +kernel
theorem dX12_act_420 : decode cX12_act 420 = .ok (.aload_n 0, 1) := by decide +kernel
theorem dX12_act_421 : decode cX12_act 421 = .ok (.getfield 58, 3) := by decide +kernel
theorem dX12_act_424 : decode cX12_act 424 = .ok (.bipush 9, 2) := by decide +kernel
theorem dX12_act_426 : decode cX12_act 426 = .ok (.iload 4, 2) := by decide +kernel
theorem dX12_act_428 : decode cX12_act 428 = .ok (.imul, 1) := by decide +kernel
theorem dX12_act_429 : decode cX12_act 429 = .ok (.iconst 4, 1) := by decide +kernel
theorem dX12_act_430 : decode cX12_act 430 = .ok (.iadd, 1) := by decide +kernel
theorem dX12_act_431 : decode cX12_act 431 = .ok (.iconst 0, 1) := by decide +kernel
theorem dX12_act_432 : decode cX12_act 432 = .ok (.iastore, 1) := by decide +kernel
theorem dX12_act_433 : decode cX12_act 433 = .ok (.aload_n 0, 1) := by decide +kernel
theorem dX12_act_434 : decode cX12_act 434 = .ok (.iload 4, 2) := by decide +kernel
theorem dX12_act_436 : decode cX12_act 436 = .ok (.invokevirtual 264, 3) := by decide +kernel
theorem dX12_act_439 : decode cX12_act 439 = .ok (.goto 91, 3) := by decide +kernel
theorem dX12_act_442 : decode cX12_act 442 = .ok (.iload_n 3, 1) := by decide +kernel
theorem dX12_act_443 : decode cX12_act 443 = .ok (.bipush 7, 2) := by decide +kernel
theorem dX12_act_445 : decode cX12_act 445 = .ok (.if_icmp .ne 21, 3) := by decide +kernel
theorem dX12_act_448 : decode cX12_act 448 = .ok (.aload_n 0, 1) := by decide +kernel
theorem dX12_act_449 : decode cX12_act 449 = .ok (.aload_n 0, 1) := by decide +kernel
theorem dX12_act_450 : decode cX12_act 450 = .ok (.iload_n 1, 1) := by decide +kernel
theorem dX12_act_451 : decode cX12_act 451 = .ok (.aload_n 0, 1) := by decide +kernel
theorem dX12_act_452 : decode cX12_act 452 = .ok (.getfield 19, 3) := by decide +kernel
theorem dX12_act_455 : decode cX12_act 455 = .ok (.iload_n 2, 1) := by decide +kernel
theorem dX12_act_456 : decode cX12_act 456 = .ok (.iaload, 1) := by decide +kernel
theorem dX12_act_457 : decode cX12_act 457 = .ok (.invokevirtual 261, 3) := by decide +kernel
theorem dX12_act_460 : decode cX12_act 460 = .ok (.invokevirtual 297, 3) := by decide +kernel
theorem dX12_act_463 : decode cX12_act 463 = .ok (.goto 67, 3) := by decide +kernel
theorem dX12_act_466 : decode cX12_act 466 = .ok (.iload_n 3, 1) := by decide +kernel
theorem dX12_act_467 : decode cX12_act 467 = .ok (.bipush 8, 2) := by decide +kernel
theorem dX12_act_469 : decode cX12_act 469 = .ok (.if_icmp .ne 26, 3) := by decide +kernel
theorem dX12_act_472 : decode cX12_act 472 = .ok (.aload_n 0, 1) := by decide +kernel
theorem dX12_act_473 : decode cX12_act 473 = .ok (.aload_n 0, 1) := by decide +kernel
theorem dX12_act_474 : decode cX12_act 474 = .ok (.iload_n 1, 1) := by decide +kernel
theorem dX12_act_475 : decode cX12_act 475 = .ok (.aload_n 0, 1) := by decide +kernel
theorem dX12_act_476 : decode cX12_act 476 = .ok (.getfield 19, 3) := by decide +kernel
theorem dX12_act_479 : decode cX12_act 479 = .ok (.iload_n 2, 1) := by decide +kernel
theorem dX12_act_480 : decode cX12_act 480 = .ok (.iaload, 1) := by decide +kernel
theorem dX12_act_481 : decode cX12_act 481 = .ok (.invokevirtual 261, 3) := by decide +kernel
theorem dX12_act_484 : decode cX12_act 484 = .ok (.invokevirtual 264, 3) := by decide +kernel
theorem dX12_act_487 : decode cX12_act 487 = .ok (.aload_n 0, 1) := by decide +kernel
theorem dX12_act_488 : decode cX12_act 488 = .ok (.iload_n 1, 1) := by decide +kernel
theorem dX12_act_489 : decode cX12_act 489 = .ok (.invokevirtual 297, 3) := by decide +kernel
theorem dX12_act_492 : decode cX12_act 492 = .ok (.goto 38, 3) := by decide +kernel
theorem dX12_act_495 : decode cX12_act 495 = .ok (.iload_n 3, 1) := by decide +kernel
theorem dX12_act_496 : decode cX12_act 496 = .ok (.bipush 11, 2) := by decide +kernel
theorem dX12_act_498 : decode cX12_act 498 = .ok (.if_icmp .ge 11, 3) := by decide +kernel
theorem dX12_act_501 : decode cX12_act 501 = .ok (.aload_n 0, 1) := by decide +kernel
theorem dX12_act_502 : decode cX12_act 502 = .ok (.iload_n 1, 1) := by decide +kernel
theorem dX12_act_503 : decode cX12_act 503 = .ok (.invokevirtual 273, 3) := by decide +kernel
theorem dX12_act_506 : decode cX12_act 506 = .ok (.goto 24, 3) := by decide +kernel
theorem dX12_act_509 : decode cX12_act 509 = .ok (.iload_n 3, 1) := by decide +kernel
theorem dX12_act_510 : decode cX12_act 510 = .ok (.bipush 11, 2) := by decide +kernel
theorem dX12_act_512 : decode cX12_act 512 = .ok (.if_icmp .ne 12, 3) := by decide +kernel
theorem dX12_act_515 : decode cX12_act 515 = .ok (.aload_n 0, 1) := by decide +kernel
theorem dX12_act_516 : decode cX12_act 516 = .ok (.iload_n 1, 1) := by decide +kernel
theorem dX12_act_517 : decode cX12_act 517 = .ok (.iload_n 2, 1) := by decide +kernel
theorem dX12_act_518 : decode cX12_act 518 = .ok (.invokevirtual 300, 3) := by decide +kernel
theorem dX12_act_521 : decode cX12_act 521 = .ok (.goto 9, 3) := by decide +kernel
theorem dX12_act_524 : decode cX12_act 524 = .ok (.aload_n 0, 1) := by decide +kernel
theorem dX12_act_525 : decode cX12_act 525 = .ok (.iload_n 1, 1) := by decide +kernel
theorem dX12_act_526 : decode cX12_act 526 = .ok (.iload_n 2, 1) := by decide +kernel
theorem dX12_act_527 : decode cX12_act 527 = .ok (.invokevirtual 303, 3) := by decide +kernel
theorem dX12_act_530 : decode cX12_act 530 = .ok (.return_, 1) := by decide +kernel
theorem dX12_dequeue_0 : decode cX12_dequeue 0 = .ok (.iconst 0, 1) := by decide +kernel
theorem dX12_dequeue_1 : decode cX12_dequeue 1 = .ok (.istore_n 1, 1) := by decide +kernel
theorem dX12_dequeue_2 : decode cX12_dequeue 2 = .ok (.aload_n 0, 1) := by decide +kernel
theorem dX12_dequeue_3 : decode cX12_dequeue 3 = .ok (.getfield 306, 3) := by decide +kernel
theorem dX12_dequeue_6 : decode cX12_dequeue 6 = .ok (.ifCond .eq 45, 3) := by decide +kernel
theorem dX12_dequeue_9 : decode cX12_dequeue 9 = .ok (.aload_n 0, 1) := by decide +kernel
theorem dX12_dequeue_10 : decode cX12_dequeue 10 = .ok (.getfield 255, 3) := by decide +kernel
theorem dX12_dequeue_13 : decode cX12_dequeue 13 = .ok (.ifCond .ne 38, 3) := by decide +kernel
theorem dX12_dequeue_16 : decode cX12_dequeue 16 = .ok (.aload_n 0, 1) := by decide +kernel
theorem dX12_dequeue_17 : decode cX12_dequeue 17 = .ok (.getfield 103, 3) := by decide +kernel
theorem dX12_dequeue_20 : decode cX12_dequeue 20 = .ok (.aload_n 0, 1) := by decide +kernel
theorem dX12_dequeue_21 : decode cX12_dequeue 21 = .ok (.getfield 309, 3) := by decide +kernel
theorem dX12_dequeue_24 : decode cX12_dequeue 24 = .ok (.iaload, 1) := by decide +kernel
theorem dX12_dequeue_25 : decode cX12_dequeue 25 = .ok (.istore_n 1, 1) := by decide +kernel
theorem dX12_dequeue_26 : decode cX12_dequeue 26 = .ok (.aload_n 0, 1) := by decide +kernel
theorem dX12_dequeue_27 : decode cX12_dequeue 27 = .ok (.getfield 106, 3) := by decide +kernel
theorem dX12_dequeue_30 : decode cX12_dequeue 30 = .ok (.aload_n 0, 1) := by decide +kernel
theorem dX12_dequeue_31 : decode cX12_dequeue 31 = .ok (.getfield 309, 3) := by decide +kernel
theorem dX12_dequeue_34 : decode cX12_dequeue 34 = .ok (.aload_n 0, 1) := by decide +kernel
theorem dX12_dequeue_35 : decode cX12_dequeue 35 = .ok (.getfield 64, 3) := by decide +kernel
theorem dX12_dequeue_38 : decode cX12_dequeue 38 = .ok (.iconst 0, 1) := by decide +kernel
theorem dX12_dequeue_39 : decode cX12_dequeue 39 = .ok (.iaload, 1) := by decide +kernel
theorem dX12_dequeue_40 : decode cX12_dequeue 40 = .ok (.iastore, 1) := by decide +kernel
theorem dX12_dequeue_41 : decode cX12_dequeue 41 = .ok (.aload_n 0, 1) := by decide +kernel
theorem dX12_dequeue_42 : decode cX12_dequeue 42 = .ok (.dup, 1) := by decide +kernel
theorem dX12_dequeue_43 : decode cX12_dequeue 43 = .ok (.getfield 309, 3) := by decide +kernel
theorem dX12_dequeue_46 : decode cX12_dequeue 46 = .ok (.iconst 1, 1) := by decide +kernel
theorem dX12_dequeue_47 : decode cX12_dequeue 47 = .ok (.iadd, 1) := by decide +kernel
theorem dX12_dequeue_48 : decode cX12_dequeue 48 = .ok (.putfield 309, 3) := by decide +kernel
theorem dX12_dequeue_51 : decode cX12_dequeue 51 = .ok (.sipush 500, 3) := by decide +kernel
theorem dX12_dequeue_54 : decode cX12_dequeue 54 = .ok (.aload_n 0, 1) := by decide +kernel
theorem dX12_dequeue_55 : decode cX12_dequeue 55 = .ok (.getfield 255, 3) := by decide +kernel
theorem dX12_dequeue_58 : decode cX12_dequeue 58 = .ok (.imul, 1) := by decide +kernel
theorem dX12_dequeue_59 : decode cX12_dequeue 59 = .ok (.istore_n 2, 1) := by decide +kernel
theorem dX12_dequeue_60 : decode cX12_dequeue 60 = .ok (.aload_n 0, 1) := by decide +kernel
theorem dX12_dequeue_61 : decode cX12_dequeue 61 = .ok (.getfield 61, 3) := by decide +kernel
theorem dX12_dequeue_64 : decode cX12_dequeue 64 = .ok (.iload_n 2, 1) := by decide +kernel
theorem dX12_dequeue_65 : decode cX12_dequeue 65 = .ok (.iload_n 1, 1) := by decide +kernel
theorem dX12_dequeue_66 : decode cX12_dequeue 66 = .ok (.iadd, 1) := by decide +kernel
theorem dX12_dequeue_67 : decode cX12_dequeue 67 = .ok (.iaload, 1) := by decide +kernel
theorem dX12_dequeue_68 : decode cX12_dequeue 68 = .ok (.istore_n 3, 1) := by decide +kernel
theorem dX12_dequeue_69 : decode cX12_dequeue 69 = .ok (.aload_n 0, 1) := by decide +kernel
theorem dX12_dequeue_70 : decode cX12_dequeue 70 = .ok (.getfield 64, 3) := by decide +kernel
theorem dX12_dequeue_73 : decode cX12_dequeue 73 = .ok (.aload_n 0, 1) := by decide +kernel
theorem dX12_dequeue_74 : decode cX12_dequeue 74 = .ok (.getfield 255, 3) := by decide +kernel
theorem dX12_dequeue_77 : decode cX12_dequeue 77 = .ok (.dup2, 1) := by decide +kernel
theorem dX12_dequeue_78 : decode cX12_dequeue 78 = .ok (.iaload, 1) := by decide +kernel
theorem dX12_dequeue_79 : decode cX12_dequeue 79 = .ok (.iconst 1, 1) := by decide +kernel
theorem dX12_dequeue_80 : decode cX12_dequeue 80 = .ok (.isub, 1) := by decide +kernel
theorem dX12_dequeue_81 : decode cX12_dequeue 81 = .ok (.iastore, 1) := by decide +kernel
theorem dX12_dequeue_82 : decode cX12_dequeue 82 = .ok (.iload_n 1, 1) := by decide +kernel
theorem dX12_dequeue_83 : decode cX12_dequeue 83 = .ok (.istore 4, 2) := by decide +kernel
theorem dX12_dequeue_85 : decode cX12_dequeue 85 = .ok (.iload 4, 2) := by decide +kernel
theorem dX12_dequeue_87 : decode cX12_dequeue 87 = .ok (.aload_n 0, 1) := by decide +kernel
theorem dX12_dequeue_88 : decode cX12_dequeue 88 = .ok (.getfield 64, 3) := by decide +kernel
theorem dX12_dequeue_91 : decode cX12_dequeue 91 = .ok (.aload_n 0, 1) := by decide +kernel
theorem dX12_dequeue_92 : decode cX12_dequeue 92 = .ok (.getfield 255, 3) := by decide +kernel
theorem dX12_dequeue_95 : decode cX12_dequeue 95 = .ok (.iaload, 1) := by decide +kernel
theorem dX12_dequeue_96 : decode cX12_dequeue 96 = .ok (.if_icmp .ge 29, 3) := by decide +kernel
theorem dX12_dequeue_99 : decode cX12_dequeue 99 = .ok (.aload_n 0, 1) := by decide +kernel
theorem dX12_dequeue_100 : decode cX12_dequeue 100 = .ok (.getfield 61, 3) := by decide +kernel
theorem dX12_dequeue_103 : decode cX12_dequeue 103 = .ok (.iload_n 2, 1) := by decide +kernel
theorem dX12_dequeue_104 : decode cX12_dequeue 104 = .ok (.iload 4, 2) := by decide +kernel
theorem dX12_dequeue_106 : decode cX12_dequeue 106 = .ok (.iadd, 1) := by decide +kernel
theorem dX12_dequeue_107 : decode cX12_dequeue 107 = .ok (.aload_n 0, 1) := by decide +kernel
theorem dX12_dequeue_108 : decode cX12_dequeue 108 = .ok (.getfield 61, 3) := by decide +kernel
theorem dX12_dequeue_111 : decode cX12_dequeue 111 = .ok (.iload_n 2, 1) := by decide +kernel
theorem dX12_dequeue_112 : decode cX12_dequeue 112 = .ok (.iload 4, 2) := by decide +kernel
theorem dX12_dequeue_114 : decode cX12_dequeue 114 = .ok (.iadd, 1) := by decide +kernel
theorem dX12_dequeue_115 : decode cX12_dequeue 115 = .ok (.iconst 1, 1) := by decide +kernel
theorem dX12_dequeue_116 : decode cX12_dequeue 116 = .ok (.iadd, 1) := by decide +kernel
theorem dX12_dequeue_117 : decode cX12_dequeue 117 = .ok (.iaload, 1) := by decide +kernel
theorem dX12_dequeue_118 : decode cX12_dequeue 118 = .ok (.iastore, 1) := by decide +kernel
theorem dX12_dequeue_119 : decode cX12_dequeue 119 = .ok (.iinc 4 1, 3) := by decide +kernel
theorem dX12_dequeue_122 : decode cX12_dequeue 122 = .ok (.goto (-37), 3) := by decide +kernel
theorem dX12_dequeue_125 : decode cX12_dequeue 125 = .ok (.iload_n 3, 1) := by decide +kernel
theorem dX12_dequeue_126 : decode cX12_dequeue 126 = .ok (.ireturn, 1) := by decide +kernel
theorem dX12_dropWait_0 : decode cX12_dropWait 0 = .ok (.aload_n 0, 1) := by decide +kernel
theorem dX12_dropWait_1 : decode cX12_dropWait 1 = .ok (.getfield 70, 3) := by decide +kernel
theorem dX12_dropWait_4 : decode cX12_dropWait 4 = .ok (.aload_n 0, 1) := by decide +kernel
theorem dX12_dropWait_5 : decode cX12_dropWait 5 = .ok (.getfield 255, 3) := by decide +kernel
theorem dX12_dropWait_8 : decode cX12_dropWait 8 = .ok (.dup2, 1) := by decide +kernel
theorem dX12_dropWait_9 : decode cX12_dropWait 9 = .ok (.iaload, 1) := by decide +kernel
theorem dX12_dropWait_10 : decode cX12_dropWait 10 = .ok (.iconst 1, 1) := by decide +kernel
theorem dX12_dropWait_11 : decode cX12_dropWait 11 = .ok (.isub, 1) := by decide +kernel
theorem dX12_dropWait_12 : decode cX12_dropWait 12 = .ok (.iastore, 1) := by decide +kernel
theorem dX12_dropWait_13 : decode cX12_dropWait 13 = .ok (.iload_n 1, 1) := by decide +kernel
theorem dX12_dropWait_14 : decode cX12_dropWait 14 = .ok (.istore_n 2, 1) := by decide +kernel
theorem dX12_dropWait_15 : decode cX12_dropWait 15 = .ok (.iload_n 2, 1) := by decide +kernel
theorem dX12_dropWait_16 : decode cX12_dropWait 16 = .ok (.aload_n 0, 1) := by decide +kernel
theorem dX12_dropWait_17 : decode cX12_dropWait 17 = .ok (.getfield 70, 3) := by decide +kernel
theorem dX12_dropWait_20 : decode cX12_dropWait 20 = .ok (.aload_n 0, 1) := by decide +kernel
theorem dX12_dropWait_21 : decode cX12_dropWait 21 = .ok (.getfield 255, 3) := by decide +kernel
theorem dX12_dropWait_24 : decode cX12_dropWait 24 = .ok (.iaload, 1) := by decide +kernel
theorem dX12_dropWait_25 : decode cX12_dropWait 25 = .ok (.if_icmp .ge 41, 3) := by decide +kernel
theorem dX12_dropWait_28 : decode cX12_dropWait 28 = .ok (.aload_n 0, 1) := by decide +kernel
theorem dX12_dropWait_29 : decode cX12_dropWait 29 = .ok (.getfield 67, 3) := by decide +kernel
theorem dX12_dropWait_32 : decode cX12_dropWait 32 = .ok (.sipush 500, 3) := by decide +kernel
theorem dX12_dropWait_35 : decode cX12_dropWait 35 = .ok (.aload_n 0, 1) := by decide +kernel
theorem dX12_dropWait_36 : decode cX12_dropWait 36 = .ok (.getfield 255, 3) := by decide +kernel
theorem dX12_dropWait_39 : decode cX12_dropWait 39 = .ok (.imul, 1) := by decide +kernel
theorem dX12_dropWait_40 : decode cX12_dropWait 40 = .ok (.iload_n 2, 1) := by decide +kernel
theorem dX12_dropWait_41 : decode cX12_dropWait 41 = .ok (.iadd, 1) := by decide +kernel
theorem dX12_dropWait_42 : decode cX12_dropWait 42 = .ok (.aload_n 0, 1) := by decide +kernel
theorem dX12_dropWait_43 : decode cX12_dropWait 43 = .ok (.getfield 67, 3) := by decide +kernel
theorem dX12_dropWait_46 : decode cX12_dropWait 46 = .ok (.sipush 500, 3) := by decide +kernel
theorem dX12_dropWait_49 : decode cX12_dropWait 49 = .ok (.aload_n 0, 1) := by decide +kernel
theorem dX12_dropWait_50 : decode cX12_dropWait 50 = .ok (.getfield 255, 3) := by decide +kernel
theorem dX12_dropWait_53 : decode cX12_dropWait 53 = .ok (.imul, 1) := by decide +kernel
theorem dX12_dropWait_54 : decode cX12_dropWait 54 = .ok (.iload_n 2, 1) := by decide +kernel
theorem dX12_dropWait_55 : decode cX12_dropWait 55 = .ok (.iadd, 1) := by decide +kernel
theorem dX12_dropWait_56 : decode cX12_dropWait 56 = .ok (.iconst 1, 1) := by decide +kernel
theorem dX12_dropWait_57 : decode cX12_dropWait 57 = .ok (.iadd, 1) := by decide +kernel
theorem dX12_dropWait_58 : decode cX12_dropWait 58 = .ok (.iaload, 1) := by decide +kernel
theorem dX12_dropWait_59 : decode cX12_dropWait 59 = .ok (.iastore, 1) := by decide +kernel
theorem dX12_dropWait_60 : decode cX12_dropWait 60 = .ok (.iinc 2 1, 3) := by decide +kernel
theorem dX12_dropWait_63 : decode cX12_dropWait 63 = .ok (.goto (-48), 3) := by decide +kernel
theorem dX12_dropWait_66 : decode cX12_dropWait 66 = .ok (.return_, 1) := by decide +kernel
theorem dX12_wakeAll_0 : decode cX12_wakeAll 0 = .ok (.iconst 0, 1) := by decide +kernel
theorem dX12_wakeAll_1 : decode cX12_wakeAll 1 = .ok (.istore_n 1, 1) := by decide +kernel
theorem dX12_wakeAll_2 : decode cX12_wakeAll 2 = .ok (.iconst 0, 1) := by decide +kernel
theorem dX12_wakeAll_3 : decode cX12_wakeAll 3 = .ok (.istore_n 2, 1) := by decide +kernel
theorem dX12_wakeAll_4 : decode cX12_wakeAll 4 = .ok (.iload_n 2, 1) := by decide +kernel
theorem dX12_wakeAll_5 : decode cX12_wakeAll 5 = .ok (.aload_n 0, 1) := by decide +kernel
theorem dX12_wakeAll_6 : decode cX12_wakeAll 6 = .ok (.getfield 70, 3) := by decide +kernel
theorem dX12_wakeAll_9 : decode cX12_wakeAll 9 = .ok (.aload_n 0, 1) := by decide +kernel
theorem dX12_wakeAll_10 : decode cX12_wakeAll 10 = .ok (.getfield 255, 3) := by decide +kernel
theorem dX12_wakeAll_13 : decode cX12_wakeAll 13 = .ok (.iaload, 1) := by decide +kernel
theorem dX12_wakeAll_14 : decode cX12_wakeAll 14 = .ok (.if_icmp .ge 118, 3) := by decide +kernel
theorem dX12_wakeAll_17 : decode cX12_wakeAll 17 = .ok (.aload_n 0, 1) := by decide +kernel
theorem dX12_wakeAll_18 : decode cX12_wakeAll 18 = .ok (.getfield 67, 3) := by decide +kernel
theorem dX12_wakeAll_21 : decode cX12_wakeAll 21 = .ok (.sipush 500, 3) := by decide +kernel
theorem dX12_wakeAll_24 : decode cX12_wakeAll 24 = .ok (.aload_n 0, 1) := by decide +kernel
theorem dX12_wakeAll_25 : decode cX12_wakeAll 25 = .ok (.getfield 255, 3) := by decide +kernel
theorem dX12_wakeAll_28 : decode cX12_wakeAll 28 = .ok (.imul, 1) := by decide +kernel
theorem dX12_wakeAll_29 : decode cX12_wakeAll 29 = .ok (.iload_n 2, 1) := by decide +kernel
theorem dX12_wakeAll_30 : decode cX12_wakeAll 30 = .ok (.iadd, 1) := by decide +kernel
theorem dX12_wakeAll_31 : decode cX12_wakeAll 31 = .ok (.iaload, 1) := by decide +kernel
theorem dX12_wakeAll_32 : decode cX12_wakeAll 32 = .ok (.istore_n 3, 1) := by decide +kernel
theorem dX12_wakeAll_33 : decode cX12_wakeAll 33 = .ok (.aload_n 0, 1) := by decide +kernel
theorem dX12_wakeAll_34 : decode cX12_wakeAll 34 = .ok (.getfield 58, 3) := by decide +kernel
theorem dX12_wakeAll_37 : decode cX12_wakeAll 37 = .ok (.bipush 9, 2) := by decide +kernel
theorem dX12_wakeAll_39 : decode cX12_wakeAll 39 = .ok (.iload_n 3, 1) := by decide +kernel
theorem dX12_wakeAll_40 : decode cX12_wakeAll 40 = .ok (.imul, 1) := by decide +kernel
theorem dX12_wakeAll_41 : decode cX12_wakeAll 41 = .ok (.iaload, 1) := by decide +kernel
theorem dX12_wakeAll_42 : decode cX12_wakeAll 42 = .ok (.istore 4, 2) := by decide +kernel
theorem dX12_wakeAll_44 : decode cX12_wakeAll 44 = .ok (.aload_n 0, 1) := by decide +kernel
theorem dX12_wakeAll_45 : decode cX12_wakeAll 45 = .ok (.getfield 16, 3) := by decide +kernel
theorem dX12_wakeAll_48 : decode cX12_wakeAll 48 = .ok (.iload 4, 2) := by decide +kernel
theorem dX12_wakeAll_50 : decode cX12_wakeAll 50 = .ok (.iaload, 1) := by decide +kernel
theorem dX12_wakeAll_51 : decode cX12_wakeAll 51 = .ok (.iconst 3, 1) := by decide +kernel
theorem dX12_wakeAll_52 : decode cX12_wakeAll 52 = .ok (.if_icmp .ne 13, 3) := by decide +kernel
theorem dX12_wakeAll_55 : decode cX12_wakeAll 55 = .ok (.aload_n 0, 1) := by decide +kernel
theorem dX12_wakeAll_56 : decode cX12_wakeAll 56 = .ok (.iload_n 3, 1) := by decide +kernel
theorem dX12_wakeAll_57 : decode cX12_wakeAll 57 = .ok (.iload 4, 2) := by decide +kernel
theorem dX12_wakeAll_59 : decode cX12_wakeAll 59 = .ok (.invokevirtual 267, 3) := by decide +kernel
theorem dX12_wakeAll_62 : decode cX12_wakeAll 62 = .ok (.ifCond .ne 25, 3) := by decide +kernel
theorem dX12_wakeAll_65 : decode cX12_wakeAll 65 = .ok (.aload_n 0, 1) := by decide +kernel
theorem dX12_wakeAll_66 : decode cX12_wakeAll 66 = .ok (.getfield 16, 3) := by decide +kernel
theorem dX12_wakeAll_69 : decode cX12_wakeAll 69 = .ok (.iload 4, 2) := by decide +kernel
theorem dX12_wakeAll_71 : decode cX12_wakeAll 71 = .ok (.iaload, 1) := by decide +kernel
theorem dX12_wakeAll_72 : decode cX12_wakeAll 72 = .ok (.iconst 4, 1) := by decide +kernel
theorem dX12_wakeAll_73 : decode cX12_wakeAll 73 = .ok (.if_icmp .ne 18, 3) := by decide +kernel
theorem dX12_wakeAll_76 : decode cX12_wakeAll 76 = .ok (.aload_n 0, 1) := by decide +kernel
theorem dX12_wakeAll_77 : decode cX12_wakeAll 77 = .ok (.iload_n 3, 1) := by decide +kernel
theorem dX12_wakeAll_78 : decode cX12_wakeAll 78 = .ok (.iload 4, 2) := by decide +kernel
theorem dX12_wakeAll_80 : decode cX12_wakeAll 80 = .ok (.invokevirtual 270, 3) := by decide +kernel
theorem dX12_wakeAll_83 : decode cX12_wakeAll 83 = .ok (.iconst (-1), 1) := by decide +kernel
theorem dX12_wakeAll_84 : decode cX12_wakeAll 84 = .ok (.if_icmp .eq 7, 3) := by decide +kernel
theorem dX12_wakeAll_87 : decode cX12_wakeAll 87 = .ok (.iconst 1, 1) := by decide +kernel
theorem dX12_wakeAll_88 : decode cX12_wakeAll 88 = .ok (.goto 4, 3) := by decide +kernel
theorem dX12_wakeAll_91 : decode cX12_wakeAll 91 = .ok (.iconst 0, 1) := by decide +kernel
theorem dX12_wakeAll_92 : decode cX12_wakeAll 92 = .ok (.istore 5, 2) := by decide +kernel
theorem dX12_wakeAll_94 : decode cX12_wakeAll 94 = .ok (.iload 5, 2) := by decide +kernel
theorem dX12_wakeAll_96 : decode cX12_wakeAll 96 = .ok (.ifCond .eq 11, 3) := by decide +kernel
theorem dX12_wakeAll_99 : decode cX12_wakeAll 99 = .ok (.aload_n 0, 1) := by decide +kernel
theorem dX12_wakeAll_100 : decode cX12_wakeAll 100 = .ok (.iload_n 3, 1) := by decide +kernel
theorem dX12_wakeAll_101 : decode cX12_wakeAll 101 = .ok (.invokevirtual 264, 3) := by decide +kernel
theorem dX12_wakeAll_104 : decode cX12_wakeAll 104 = .ok (.goto 22, 3) := by decide +kernel
theorem dX12_wakeAll_107 : decode cX12_wakeAll 107 = .ok (.aload_n 0, 1) := by decide +kernel
theorem dX12_wakeAll_108 : decode cX12_wakeAll 108 = .ok (.getfield 67, 3) := by decide +kernel
theorem dX12_wakeAll_111 : decode cX12_wakeAll 111 = .ok (.sipush 500, 3) := by decide +kernel
theorem dX12_wakeAll_114 : decode cX12_wakeAll 114 = .ok (.aload_n 0, 1) := by decide +kernel
theorem dX12_wakeAll_115 : decode cX12_wakeAll 115 = .ok (.getfield 255, 3) := by decide +kernel
theorem dX12_wakeAll_118 : decode cX12_wakeAll 118 = .ok (.imul, 1) := by decide +kernel
theorem dX12_wakeAll_119 : decode cX12_wakeAll 119 = .ok (.iload_n 1, 1) := by decide +kernel
theorem dX12_wakeAll_120 : decode cX12_wakeAll 120 = .ok (.iadd, 1) := by decide +kernel
theorem dX12_wakeAll_121 : decode cX12_wakeAll 121 = .ok (.iload_n 3, 1) := by decide +kernel
theorem dX12_wakeAll_122 : decode cX12_wakeAll 122 = .ok (.iastore, 1) := by decide +kernel
theorem dX12_wakeAll_123 : decode cX12_wakeAll 123 = .ok (.iinc 1 1, 3) := by decide +kernel
theorem dX12_wakeAll_126 : decode cX12_wakeAll 126 = .ok (.iinc 2 1, 3) := by decide +kernel
theorem dX12_wakeAll_129 : decode cX12_wakeAll 129 = .ok (.goto (-125), 3) := by decide +kernel
theorem dX12_wakeAll_132 : decode cX12_wakeAll 132 = .ok (.aload_n 0, 1) := by decide +kernel
theorem dX12_wakeAll_133 : decode cX12_wakeAll 133 = .ok (.getfield 70, 3) := by decide +kernel
theorem dX12_wakeAll_136 : decode cX12_wakeAll 136 = .ok (.aload_n 0, 1) := by decide +kernel
theorem dX12_wakeAll_137 : decode cX12_wakeAll 137 = .ok (.getfield 255, 3) := by decide +kernel
theorem dX12_wakeAll_140 : decode cX12_wakeAll 140 = .ok (.iload_n 1, 1) := by decide +kernel
theorem dX12_wakeAll_141 : decode cX12_wakeAll 141 = .ok (.iastore, 1) := by decide +kernel
theorem dX12_wakeAll_142 : decode cX12_wakeAll 142 = .ok (.return_, 1) := by decide +kernel
theorem dX12_assume_0 : decode cX12_assume 0 = .ok (.iconst 0, 1) := by decide +kernel
theorem dX12_assume_1 : decode cX12_assume 1 = .ok (.istore_n 1, 1) := by decide +kernel
theorem dX12_assume_2 : decode cX12_assume 2 = .ok (.iload_n 1, 1) := by decide +kernel
theorem dX12_assume_3 : decode cX12_assume 3 = .ok (.aload_n 0, 1) := by decide +kernel
theorem dX12_assume_4 : decode cX12_assume 4 = .ok (.getfield 70, 3) := by decide +kernel
theorem dX12_assume_7 : decode cX12_assume 7 = .ok (.aload_n 0, 1) := by decide +kernel
theorem dX12_assume_8 : decode cX12_assume 8 = .ok (.getfield 255, 3) := by decide +kernel
theorem dX12_assume_11 : decode cX12_assume 11 = .ok (.iaload, 1) := by decide +kernel
theorem dX12_assume_12 : decode cX12_assume 12 = .ok (.if_icmp .ge 113, 3) := by decide +kernel
theorem dX12_assume_15 : decode cX12_assume 15 = .ok (.aload_n 0, 1) := by decide +kernel
theorem dX12_assume_16 : decode cX12_assume 16 = .ok (.getfield 67, 3) := by decide +kernel
theorem dX12_assume_19 : decode cX12_assume 19 = .ok (.sipush 500, 3) := by decide +kernel
theorem dX12_assume_22 : decode cX12_assume 22 = .ok (.aload_n 0, 1) := by decide +kernel
theorem dX12_assume_23 : decode cX12_assume 23 = .ok (.getfield 255, 3) := by decide +kernel
theorem dX12_assume_26 : decode cX12_assume 26 = .ok (.imul, 1) := by decide +kernel
theorem dX12_assume_27 : decode cX12_assume 27 = .ok (.iload_n 1, 1) := by decide +kernel
theorem dX12_assume_28 : decode cX12_assume 28 = .ok (.iadd, 1) := by decide +kernel
theorem dX12_assume_29 : decode cX12_assume 29 = .ok (.iaload, 1) := by decide +kernel
theorem dX12_assume_30 : decode cX12_assume 30 = .ok (.istore_n 2, 1) := by decide +kernel
theorem dX12_assume_31 : decode cX12_assume 31 = .ok (.aload_n 0, 1) := by decide +kernel
theorem dX12_assume_32 : decode cX12_assume 32 = .ok (.getfield 58, 3) := by decide +kernel
theorem dX12_assume_35 : decode cX12_assume 35 = .ok (.bipush 9, 2) := by decide +kernel
theorem dX12_assume_37 : decode cX12_assume 37 = .ok (.iload_n 2, 1) := by decide +kernel
theorem dX12_assume_38 : decode cX12_assume 38 = .ok (.imul, 1) := by decide +kernel
theorem dX12_assume_39 : decode cX12_assume 39 = .ok (.iaload, 1) := by decide +kernel
theorem dX12_assume_40 : decode cX12_assume 40 = .ok (.istore_n 3, 1) := by decide +kernel
theorem dX12_assume_41 : decode cX12_assume 41 = .ok (.aload_n 0, 1) := by decide +kernel
theorem dX12_assume_42 : decode cX12_assume 42 = .ok (.getfield 16, 3) := by decide +kernel
theorem dX12_assume_45 : decode cX12_assume 45 = .ok (.iload_n 3, 1) := by decide +kernel
theorem dX12_assume_46 : decode cX12_assume 46 = .ok (.iaload, 1) := by decide +kernel
theorem dX12_assume_47 : decode cX12_assume 47 = .ok (.bipush 10, 2) := by decide +kernel
theorem dX12_assume_49 : decode cX12_assume 49 = .ok (.if_icmp .ne 70, 3) := by decide +kernel
theorem dX12_assume_52 : decode cX12_assume 52 = .ok (.aload_n 0, 1) := by decide +kernel
theorem dX12_assume_53 : decode cX12_assume 53 = .ok (.iload_n 2, 1) := by decide +kernel
theorem dX12_assume_54 : decode cX12_assume 54 = .ok (.iload_n 3, 1) := by decide +kernel
theorem dX12_assume_55 : decode cX12_assume 55 = .ok (.invokevirtual 267, 3) := by decide +kernel
theorem dX12_assume_58 : decode cX12_assume 58 = .ok (.ifCond .ne 61, 3) := by decide +kernel
theorem dX12_assume_61 : decode cX12_assume 61 = .ok (.aload_n 0, 1) := by decide +kernel
theorem dX12_assume_62 : decode cX12_assume 62 = .ok (.iload_n 1, 1) := by decide +kernel
theorem dX12_assume_63 : decode cX12_assume 63 = .ok (.invokevirtual 312, 3) := by decide +kernel
theorem dX12_assume_66 : decode cX12_assume 66 = .ok (.aload_n 0, 1) := by decide +kernel
theorem dX12_assume_67 : decode cX12_assume 67 = .ok (.getfield 73, 3) := by decide +kernel
theorem dX12_assume_70 : decode cX12_assume 70 = .ok (.sipush 500, 3) := by decide +kernel
theorem dX12_assume_73 : decode cX12_assume 73 = .ok (.aload_n 0, 1) := by decide +kernel
theorem dX12_assume_74 : decode cX12_assume 74 = .ok (.getfield 255, 3) := by decide +kernel
theorem dX12_assume_77 : decode cX12_assume 77 = .ok (.imul, 1) := by decide +kernel
theorem dX12_assume_78 : decode cX12_assume 78 = .ok (.aload_n 0, 1) := by decide +kernel
theorem dX12_assume_79 : decode cX12_assume 79 = .ok (.getfield 76, 3) := by decide +kernel
theorem dX12_assume_82 : decode cX12_assume 82 = .ok (.aload_n 0, 1) := by decide +kernel
theorem dX12_assume_83 : decode cX12_assume 83 = .ok (.getfield 255, 3) := by decide +kernel
theorem dX12_assume_86 : decode cX12_assume 86 = .ok (.iaload, 1) := by decide +kernel
theorem dX12_assume_87 : decode cX12_assume 87 = .ok (.iadd, 1) := by decide +kernel
theorem dX12_assume_88 : decode cX12_assume 88 = .ok (.iload_n 2, 1) := by decide +kernel
theorem dX12_assume_89 : decode cX12_assume 89 = .ok (.iastore, 1) := by decide +kernel
theorem dX12_assume_90 : decode cX12_assume 90 = .ok (.aload_n 0, 1) := by decide +kernel
theorem dX12_assume_91 : decode cX12_assume 91 = .ok (.getfield 76, 3) := by decide +kernel
theorem dX12_assume_94 : decode cX12_assume 94 = .ok (.aload_n 0, 1) := by decide +kernel
theorem dX12_assume_95 : decode cX12_assume 95 = .ok (.getfield 255, 3) := by decide +kernel
theorem dX12_assume_98 : decode cX12_assume 98 = .ok (.dup2, 1) := by decide +kernel
theorem dX12_assume_99 : decode cX12_assume 99 = .ok (.iaload, 1) := by decide +kernel
theorem dX12_assume_100 : decode cX12_assume 100 = .ok (.iconst 1, 1) := by decide +kernel
theorem dX12_assume_101 : decode cX12_assume 101 = .ok (.iadd, 1) := by decide +kernel
theorem dX12_assume_102 : decode cX12_assume 102 = .ok (.iastore, 1) := by decide +kernel
theorem dX12_assume_103 : decode cX12_assume 103 = .ok (.aload_n 0, 1) := by decide +kernel
theorem dX12_assume_104 : decode cX12_assume 104 = .ok (.aload_n 0, 1) := by decide +kernel
theorem dX12_assume_105 : decode cX12_assume 105 = .ok (.iload_n 2, 1) := by decide +kernel
theorem dX12_assume_106 : decode cX12_assume 106 = .ok (.aload_n 0, 1) := by decide +kernel
theorem dX12_assume_107 : decode cX12_assume 107 = .ok (.getfield 28, 3) := by decide +kernel
theorem dX12_assume_110 : decode cX12_assume 110 = .ok (.iload_n 3, 1) := by decide +kernel
theorem dX12_assume_111 : decode cX12_assume 111 = .ok (.iaload, 1) := by decide +kernel
theorem dX12_assume_112 : decode cX12_assume 112 = .ok (.invokevirtual 261, 3) := by decide +kernel
theorem dX12_assume_115 : decode cX12_assume 115 = .ok (.invokevirtual 264, 3) := by decide +kernel
theorem dX12_assume_118 : decode cX12_assume 118 = .ok (.return_, 1) := by decide +kernel
theorem dX12_assume_119 : decode cX12_assume 119 = .ok (.iinc 1 1, 3) := by decide +kernel
theorem dX12_assume_122 : decode cX12_assume 122 = .ok (.goto (-120), 3) := by decide +kernel
theorem dX12_assume_125 : decode cX12_assume 125 = .ok (.return_, 1) := by decide +kernel
theorem dX12_endLevel_0 : decode cX12_endLevel 0 = .ok (.iconst 0, 1) := by decide +kernel
theorem dX12_endLevel_1 : decode cX12_endLevel 1 = .ok (.istore_n 1, 1) := by decide +kernel
theorem dX12_endLevel_2 : decode cX12_endLevel 2 = .ok (.iload_n 1, 1) := by decide +kernel
theorem dX12_endLevel_3 : decode cX12_endLevel 3 = .ok (.aload_n 0, 1) := by decide +kernel
theorem dX12_endLevel_4 : decode cX12_endLevel 4 = .ok (.getfield 76, 3) := by decide +kernel
theorem dX12_endLevel_7 : decode cX12_endLevel 7 = .ok (.aload_n 0, 1) := by decide +kernel
theorem dX12_endLevel_8 : decode cX12_endLevel 8 = .ok (.getfield 255, 3) := by decide +kernel
theorem dX12_endLevel_11 : decode cX12_endLevel 11 = .ok (.iaload, 1) := by decide +kernel
theorem dX12_endLevel_12 : decode cX12_endLevel 12 = .ok (.if_icmp .ge 48, 3) := by decide +kernel
theorem dX12_endLevel_15 : decode cX12_endLevel 15 = .ok (.aload_n 0, 1) := by decide +kernel
theorem dX12_endLevel_16 : decode cX12_endLevel 16 = .ok (.getfield 73, 3) := by decide +kernel
theorem dX12_endLevel_19 : decode cX12_endLevel 19 = .ok (.sipush 500, 3) := by decide +kernel
theorem dX12_endLevel_22 : decode cX12_endLevel 22 = .ok (.aload_n 0, 1) := by decide +kernel
theorem dX12_endLevel_23 : decode cX12_endLevel 23 = .ok (.getfield 255, 3) := by decide +kernel
theorem dX12_endLevel_26 : decode cX12_endLevel 26 = .ok (.imul, 1) := by decide +kernel
theorem dX12_endLevel_27 : decode cX12_endLevel 27 = .ok (.iload_n 1, 1) := by decide +kernel
theorem dX12_endLevel_28 : decode cX12_endLevel 28 = .ok (.iadd, 1) := by decide +kernel
theorem dX12_endLevel_29 : decode cX12_endLevel 29 = .ok (.iaload, 1) := by decide +kernel
theorem dX12_endLevel_30 : decode cX12_endLevel 30 = .ok (.istore_n 2, 1) := by decide +kernel
theorem dX12_endLevel_31 : decode cX12_endLevel 31 = .ok (.aload_n 0, 1) := by decide +kernel
theorem dX12_endLevel_32 : decode cX12_endLevel 32 = .ok (.dup, 1) := by decide +kernel
theorem dX12_endLevel_33 : decode cX12_endLevel 33 = .ok (.getfield 133, 3) := by decide +kernel
theorem dX12_endLevel_36 : decode cX12_endLevel 36 = .ok (.aload_n 0, 1) := by decide +kernel
theorem dX12_endLevel_37 : decode cX12_endLevel 37 = .ok (.iload_n 2, 1) := by decide +kernel
theorem dX12_endLevel_38 : decode cX12_endLevel 38 = .ok (.aload_n 0, 1) := by decide +kernel
theorem dX12_endLevel_39 : decode cX12_endLevel 39 = .ok (.getfield 58, 3) := by decide +kernel
theorem dX12_endLevel_42 : decode cX12_endLevel 42 = .ok (.bipush 9, 2) := by decide +kernel
theorem dX12_endLevel_44 : decode cX12_endLevel 44 = .ok (.iload_n 2, 1) := by decide +kernel
theorem dX12_endLevel_45 : decode cX12_endLevel 45 = .ok (.imul, 1) := by decide +kernel
theorem dX12_endLevel_46 : decode cX12_endLevel 46 = .ok (.iaload, 1) := by decide +kernel
theorem dX12_endLevel_47 : decode cX12_endLevel 47 = .ok (.invokevirtual 267, 3) := by decide +kernel
theorem dX12_endLevel_50 : decode cX12_endLevel 50 = .ok (.ior, 1) := by decide +kernel
theorem dX12_endLevel_51 : decode cX12_endLevel 51 = .ok (.putfield 133, 3) := by decide +kernel
theorem dX12_endLevel_54 : decode cX12_endLevel 54 = .ok (.iinc 1 1, 3) := by decide +kernel
theorem dX12_endLevel_57 : decode cX12_endLevel 57 = .ok (.goto (-55), 3) := by decide +kernel
theorem dX12_endLevel_60 : decode cX12_endLevel 60 = .ok (.iconst 0, 1) := by decide +kernel
theorem dX12_endLevel_61 : decode cX12_endLevel 61 = .ok (.istore_n 1, 1) := by decide +kernel
theorem dX12_endLevel_62 : decode cX12_endLevel 62 = .ok (.iload_n 1, 1) := by decide +kernel
theorem dX12_endLevel_63 : decode cX12_endLevel 63 = .ok (.aload_n 0, 1) := by decide +kernel
theorem dX12_endLevel_64 : decode cX12_endLevel 64 = .ok (.getfield 70, 3) := by decide +kernel
theorem dX12_endLevel_67 : decode cX12_endLevel 67 = .ok (.aload_n 0, 1) := by decide +kernel
theorem dX12_endLevel_68 : decode cX12_endLevel 68 = .ok (.getfield 255, 3) := by decide +kernel
theorem dX12_endLevel_71 : decode cX12_endLevel 71 = .ok (.iaload, 1) := by decide +kernel
theorem dX12_endLevel_72 : decode cX12_endLevel 72 = .ok (.if_icmp .ge 77, 3) := by decide +kernel
theorem dX12_endLevel_75 : decode cX12_endLevel 75 = .ok (.aload_n 0, 1) := by decide +kernel
theorem dX12_endLevel_76 : decode cX12_endLevel 76 = .ok (.getfield 133, 3) := by decide +kernel
theorem dX12_endLevel_79 : decode cX12_endLevel 79 = .ok (.ifCond .ne 70, 3) := by decide +kernel
theorem dX12_endLevel_82 : decode cX12_endLevel 82 = .ok (.aload_n 0, 1) := by decide +kernel
theorem dX12_endLevel_83 : decode cX12_endLevel 83 = .ok (.getfield 67, 3) := by decide +kernel
theorem dX12_endLevel_86 : decode cX12_endLevel 86 = .ok (.sipush 500, 3) := by decide +kernel
theorem dX12_endLevel_89 : decode cX12_endLevel 89 = .ok (.aload_n 0, 1) := by decide +kernel
theorem dX12_endLevel_90 : decode cX12_endLevel 90 = .ok (.getfield 255, 3) := by decide +kernel
theorem dX12_endLevel_93 : decode cX12_endLevel 93 = .ok (.imul, 1) := by decide +kernel
theorem dX12_endLevel_94 : decode cX12_endLevel 94 = .ok (.iload_n 1, 1) := by decide +kernel
theorem dX12_endLevel_95 : decode cX12_endLevel 95 = .ok (.iadd, 1) := by decide +kernel
theorem dX12_endLevel_96 : decode cX12_endLevel 96 = .ok (.iaload, 1) := by decide +kernel
theorem dX12_endLevel_97 : decode cX12_endLevel 97 = .ok (.istore_n 2, 1) := by decide +kernel
theorem dX12_endLevel_98 : decode cX12_endLevel 98 = .ok (.aload_n 0, 1) := by decide +kernel
theorem dX12_endLevel_99 : decode cX12_endLevel 99 = .ok (.getfield 58, 3) := by decide +kernel
theorem dX12_endLevel_102 : decode cX12_endLevel 102 = .ok (.bipush 9, 2) := by decide +kernel
theorem dX12_endLevel_104 : decode cX12_endLevel 104 = .ok (.iload_n 2, 1) := by decide +kernel
theorem dX12_endLevel_105 : decode cX12_endLevel 105 = .ok (.imul, 1) := by decide +kernel
theorem dX12_endLevel_106 : decode cX12_endLevel 106 = .ok (.iaload, 1) := by decide +kernel
theorem dX12_endLevel_107 : decode cX12_endLevel 107 = .ok (.istore_n 3, 1) := by decide +kernel
theorem dX12_endLevel_108 : decode cX12_endLevel 108 = .ok (.aload_n 0, 1) := by decide +kernel
theorem dX12_endLevel_109 : decode cX12_endLevel 109 = .ok (.getfield 16, 3) := by decide +kernel
theorem dX12_endLevel_112 : decode cX12_endLevel 112 = .ok (.iload_n 3, 1) := by decide +kernel
theorem dX12_endLevel_113 : decode cX12_endLevel 113 = .ok (.iaload, 1) := by decide +kernel
theorem dX12_endLevel_114 : decode cX12_endLevel 114 = .ok (.bipush 9, 2) := by decide +kernel
theorem dX12_endLevel_116 : decode cX12_endLevel 116 = .ok (.if_icmp .ne 27, 3) := by decide +kernel
theorem dX12_endLevel_119 : decode cX12_endLevel 119 = .ok (.aload_n 0, 1) := by decide +kernel
theorem dX12_endLevel_120 : decode cX12_endLevel 120 = .ok (.iload_n 2, 1) := by decide +kernel
theorem dX12_endLevel_121 : decode cX12_endLevel 121 = .ok (.iload_n 3, 1) := by decide +kernel
theorem dX12_endLevel_122 : decode cX12_endLevel 122 = .ok (.invokevirtual 267, 3) := by decide +kernel
theorem dX12_endLevel_125 : decode cX12_endLevel 125 = .ok (.ifCond .ne 18, 3) := by decide +kernel
theorem dX12_endLevel_128 : decode cX12_endLevel 128 = .ok (.aload_n 0, 1) := by decide +kernel
theorem dX12_endLevel_129 : decode cX12_endLevel 129 = .ok (.aload_n 0, 1) := by decide +kernel
theorem dX12_endLevel_130 : decode cX12_endLevel 130 = .ok (.iload_n 2, 1) := by decide +kernel
theorem dX12_endLevel_131 : decode cX12_endLevel 131 = .ok (.aload_n 0, 1) := by decide +kernel
theorem dX12_endLevel_132 : decode cX12_endLevel 132 = .ok (.getfield 28, 3) := by decide +kernel
theorem dX12_endLevel_135 : decode cX12_endLevel 135 = .ok (.iload_n 3, 1) := by decide +kernel
theorem dX12_endLevel_136 : decode cX12_endLevel 136 = .ok (.iaload, 1) := by decide +kernel
theorem dX12_endLevel_137 : decode cX12_endLevel 137 = .ok (.invokevirtual 261, 3) := by decide +kernel
theorem dX12_endLevel_140 : decode cX12_endLevel 140 = .ok (.invokevirtual 297, 3) := by decide +kernel
theorem dX12_endLevel_143 : decode cX12_endLevel 143 = .ok (.iinc 1 1, 3) := by decide +kernel
theorem dX12_endLevel_146 : decode cX12_endLevel 146 = .ok (.goto (-84), 3) := by decide +kernel
theorem dX12_endLevel_149 : decode cX12_endLevel 149 = .ok (.return_, 1) := by decide +kernel
theorem dX12_run_0 : decode cX12_run 0 = .ok (.aload_n 0, 1) := by decide +kernel
theorem dX12_run_1 : decode cX12_run 1 = .ok (.iconst 0, 1) := by decide +kernel
theorem dX12_run_2 : decode cX12_run 2 = .ok (.putfield 255, 3) := by decide +kernel
theorem dX12_run_5 : decode cX12_run 5 = .ok (.aload_n 0, 1) := by decide +kernel
theorem dX12_run_6 : decode cX12_run 6 = .ok (.iconst 0, 1) := by decide +kernel
theorem dX12_run_7 : decode cX12_run 7 = .ok (.putfield 181, 3) := by decide +kernel
theorem dX12_run_10 : decode cX12_run 10 = .ok (.aload_n 0, 1) := by decide +kernel
theorem dX12_run_11 : decode cX12_run 11 = .ok (.iconst 0, 1) := by decide +kernel
theorem dX12_run_12 : decode cX12_run 12 = .ok (.putfield 309, 3) := by decide +kernel
theorem dX12_run_15 : decode cX12_run 15 = .ok (.aload_n 0, 1) := by decide +kernel
theorem dX12_run_16 : decode cX12_run 16 = .ok (.iconst 0, 1) := by decide +kernel
theorem dX12_run_17 : decode cX12_run 17 = .ok (.putfield 133, 3) := by decide +kernel
theorem dX12_run_20 : decode cX12_run 20 = .ok (.aload_n 0, 1) := by decide +kernel
theorem dX12_run_21 : decode cX12_run 21 = .ok (.iconst 0, 1) := by decide +kernel
theorem dX12_run_22 : decode cX12_run 22 = .ok (.putfield 156, 3) := by decide +kernel
theorem dX12_run_25 : decode cX12_run 25 = .ok (.aload_n 0, 1) := by decide +kernel
theorem dX12_run_26 : decode cX12_run 26 = .ok (.aload_n 0, 1) := by decide +kernel
theorem dX12_run_27 : decode cX12_run 27 = .ok (.getfield 7, 3) := by decide +kernel
theorem dX12_run_30 : decode cX12_run 30 = .ok (.sipush 7041, 3) := by decide +kernel
theorem dX12_run_33 : decode cX12_run 33 = .ok (.iaload, 1) := by decide +kernel
theorem dX12_run_34 : decode cX12_run 34 = .ok (.putfield 252, 3) := by decide +kernel
theorem dX12_run_37 : decode cX12_run 37 = .ok (.aload_n 0, 1) := by decide +kernel
theorem dX12_run_38 : decode cX12_run 38 = .ok (.getfield 64, 3) := by decide +kernel
theorem dX12_run_41 : decode cX12_run 41 = .ok (.iconst 0, 1) := by decide +kernel
theorem dX12_run_42 : decode cX12_run 42 = .ok (.aload_n 0, 1) := by decide +kernel
theorem dX12_run_43 : decode cX12_run 43 = .ok (.getfield 252, 3) := by decide +kernel
theorem dX12_run_46 : decode cX12_run 46 = .ok (.iastore, 1) := by decide +kernel
theorem dX12_run_47 : decode cX12_run 47 = .ok (.aload_n 0, 1) := by decide +kernel
theorem dX12_run_48 : decode cX12_run 48 = .ok (.getfield 70, 3) := by decide +kernel
theorem dX12_run_51 : decode cX12_run 51 = .ok (.iconst 0, 1) := by decide +kernel
theorem dX12_run_52 : decode cX12_run 52 = .ok (.iconst 0, 1) := by decide +kernel
theorem dX12_run_53 : decode cX12_run 53 = .ok (.iastore, 1) := by decide +kernel
theorem dX12_run_54 : decode cX12_run 54 = .ok (.aload_n 0, 1) := by decide +kernel
theorem dX12_run_55 : decode cX12_run 55 = .ok (.getfield 76, 3) := by decide +kernel
theorem dX12_run_58 : decode cX12_run 58 = .ok (.iconst 0, 1) := by decide +kernel
theorem dX12_run_59 : decode cX12_run 59 = .ok (.iconst 0, 1) := by decide +kernel
theorem dX12_run_60 : decode cX12_run 60 = .ok (.iastore, 1) := by decide +kernel
theorem dX12_run_61 : decode cX12_run 61 = .ok (.aload_n 0, 1) := by decide +kernel
theorem dX12_run_62 : decode cX12_run 62 = .ok (.getfield 82, 3) := by decide +kernel
theorem dX12_run_65 : decode cX12_run 65 = .ok (.iconst 0, 1) := by decide +kernel
theorem dX12_run_66 : decode cX12_run 66 = .ok (.iconst 0, 1) := by decide +kernel
theorem dX12_run_67 : decode cX12_run 67 = .ok (.iastore, 1) := by decide +kernel
theorem dX12_run_68 : decode cX12_run 68 = .ok (.iconst 0, 1) := by decide +kernel
theorem dX12_run_69 : decode cX12_run 69 = .ok (.istore_n 1, 1) := by decide +kernel
theorem dX12_run_70 : decode cX12_run 70 = .ok (.iload_n 1, 1) := by decide +kernel
theorem dX12_run_71 : decode cX12_run 71 = .ok (.bipush 9, 2) := by decide +kernel
theorem dX12_run_73 : decode cX12_run 73 = .ok (.aload_n 0, 1) := by decide +kernel
theorem dX12_run_74 : decode cX12_run 74 = .ok (.getfield 252, 3) := by decide +kernel
theorem dX12_run_77 : decode cX12_run 77 = .ok (.imul, 1) := by decide +kernel
theorem dX12_run_78 : decode cX12_run 78 = .ok (.if_icmp .ge 25, 3) := by decide +kernel
theorem dX12_run_81 : decode cX12_run 81 = .ok (.aload_n 0, 1) := by decide +kernel
theorem dX12_run_82 : decode cX12_run 82 = .ok (.getfield 58, 3) := by decide +kernel
theorem dX12_run_85 : decode cX12_run 85 = .ok (.iload_n 1, 1) := by decide +kernel
theorem dX12_run_86 : decode cX12_run 86 = .ok (.aload_n 0, 1) := by decide +kernel
theorem dX12_run_87 : decode cX12_run 87 = .ok (.getfield 7, 3) := by decide +kernel
theorem dX12_run_90 : decode cX12_run 90 = .ok (.sipush 7042, 3) := by decide +kernel
theorem dX12_run_93 : decode cX12_run 93 = .ok (.iload_n 1, 1) := by decide +kernel
theorem dX12_run_94 : decode cX12_run 94 = .ok (.iadd, 1) := by decide +kernel
theorem dX12_run_95 : decode cX12_run 95 = .ok (.iaload, 1) := by decide +kernel
theorem dX12_run_96 : decode cX12_run 96 = .ok (.iastore, 1) := by decide +kernel
theorem dX12_run_97 : decode cX12_run 97 = .ok (.iinc 1 1, 3) := by decide +kernel
theorem dX12_run_100 : decode cX12_run 100 = .ok (.goto (-30), 3) := by decide +kernel
theorem dX12_run_103 : decode cX12_run 103 = .ok (.iconst 0, 1) := by decide +kernel
theorem dX12_run_104 : decode cX12_run 104 = .ok (.istore_n 1, 1) := by decide +kernel
theorem dX12_run_105 : decode cX12_run 105 = .ok (.iload_n 1, 1) := by decide +kernel
theorem dX12_run_106 : decode cX12_run 106 = .ok (.aload_n 0, 1) := by decide +kernel
theorem dX12_run_107 : decode cX12_run 107 = .ok (.getfield 252, 3) := by decide +kernel
theorem dX12_run_110 : decode cX12_run 110 = .ok (.if_icmp .ge 16, 3) := by decide +kernel
theorem dX12_run_113 : decode cX12_run 113 = .ok (.aload_n 0, 1) := by decide +kernel
theorem dX12_run_114 : decode cX12_run 114 = .ok (.getfield 61, 3) := by decide +kernel
theorem dX12_run_117 : decode cX12_run 117 = .ok (.iload_n 1, 1) := by decide +kernel
theorem dX12_run_118 : decode cX12_run 118 = .ok (.iload_n 1, 1) := by decide +kernel
theorem dX12_run_119 : decode cX12_run 119 = .ok (.iastore, 1) := by decide +kernel
theorem dX12_run_120 : decode cX12_run 120 = .ok (.iinc 1 1, 3) := by decide +kernel
theorem dX12_run_123 : decode cX12_run 123 = .ok (.goto (-18), 3) := by decide +kernel
theorem dX12_run_126 : decode cX12_run 126 = .ok (.iconst 1, 1) := by decide +kernel
theorem dX12_run_127 : decode cX12_run 127 = .ok (.istore_n 1, 1) := by decide +kernel
theorem dX12_run_128 : decode cX12_run 128 = .ok (.iload_n 1, 1) := by decide +kernel
theorem dX12_run_129 : decode cX12_run 129 = .ok (.ifCond .eq 136, 3) := by decide +kernel
theorem dX12_run_132 : decode cX12_run 132 = .ok (.aload_n 0, 1) := by decide +kernel
theorem dX12_run_133 : decode cX12_run 133 = .ok (.getfield 133, 3) := by decide +kernel
theorem dX12_run_136 : decode cX12_run 136 = .ok (.ifCond .eq 17, 3) := by decide +kernel
theorem dX12_run_139 : decode cX12_run 139 = .ok (.aload_n 0, 1) := by decide +kernel
theorem dX12_run_140 : decode cX12_run 140 = .ok (.getfield 255, 3) := by decide +kernel
theorem dX12_run_143 : decode cX12_run 143 = .ok (.ifCond .le 10, 3) := by decide +kernel
theorem dX12_run_146 : decode cX12_run 146 = .ok (.aload_n 0, 1) := by decide +kernel
theorem dX12_run_147 : decode cX12_run 147 = .ok (.invokevirtual 315, 3) := by decide +kernel
theorem dX12_run_150 : decode cX12_run 150 = .ok (.goto (-22), 3) := by decide +kernel
theorem dX12_run_153 : decode cX12_run 153 = .ok (.aload_n 0, 1) := by decide +kernel
theorem dX12_run_154 : decode cX12_run 154 = .ok (.getfield 133, 3) := by decide +kernel
theorem dX12_run_157 : decode cX12_run 157 = .ok (.ifCond .eq 8, 3) := by decide +kernel
theorem dX12_run_160 : decode cX12_run 160 = .ok (.iconst 0, 1) := by decide +kernel
theorem dX12_run_161 : decode cX12_run 161 = .ok (.istore_n 1, 1) := by decide +kernel
theorem dX12_run_162 : decode cX12_run 162 = .ok (.goto (-34), 3) := by decide +kernel
theorem dX12_run_165 : decode cX12_run 165 = .ok (.aload_n 0, 1) := by decide +kernel
theorem dX12_run_166 : decode cX12_run 166 = .ok (.getfield 64, 3) := by decide +kernel
theorem dX12_run_169 : decode cX12_run 169 = .ok (.aload_n 0, 1) := by decide +kernel
theorem dX12_run_170 : decode cX12_run 170 = .ok (.getfield 255, 3) := by decide +kernel
theorem dX12_run_173 : decode cX12_run 173 = .ok (.iaload, 1) := by decide +kernel
theorem dX12_run_174 : decode cX12_run 174 = .ok (.ifCond .le 14, 3) := by decide +kernel
theorem dX12_run_177 : decode cX12_run 177 = .ok (.aload_n 0, 1) := by decide +kernel
theorem dX12_run_178 : decode cX12_run 178 = .ok (.aload_n 0, 1) := by decide +kernel
theorem dX12_run_179 : decode cX12_run 179 = .ok (.invokevirtual 318, 3) := by decide +kernel
theorem dX12_run_182 : decode cX12_run 182 = .ok (.invokevirtual 321, 3) := by decide +kernel
theorem dX12_run_185 : decode cX12_run 185 = .ok (.goto (-57), 3) := by decide +kernel
theorem dX12_run_188 : decode cX12_run 188 = .ok (.aload_n 0, 1) := by decide +kernel
theorem dX12_run_189 : decode cX12_run 189 = .ok (.invokevirtual 324, 3) := by decide +kernel
theorem dX12_run_192 : decode cX12_run 192 = .ok (.aload_n 0, 1) := by decide +kernel
theorem dX12_run_193 : decode cX12_run 193 = .ok (.getfield 64, 3) := by decide +kernel
theorem dX12_run_196 : decode cX12_run 196 = .ok (.aload_n 0, 1) := by decide +kernel
theorem dX12_run_197 : decode cX12_run 197 = .ok (.getfield 255, 3) := by decide +kernel
theorem dX12_run_200 : decode cX12_run 200 = .ok (.iaload, 1) := by decide +kernel
theorem dX12_run_201 : decode cX12_run 201 = .ok (.ifCond .ne 7, 3) := by decide +kernel
theorem dX12_run_204 : decode cX12_run 204 = .ok (.aload_n 0, 1) := by decide +kernel
theorem dX12_run_205 : decode cX12_run 205 = .ok (.invokevirtual 327, 3) := by decide +kernel
theorem dX12_run_208 : decode cX12_run 208 = .ok (.aload_n 0, 1) := by decide +kernel
theorem dX12_run_209 : decode cX12_run 209 = .ok (.getfield 64, 3) := by decide +kernel
theorem dX12_run_212 : decode cX12_run 212 = .ok (.aload_n 0, 1) := by decide +kernel
theorem dX12_run_213 : decode cX12_run 213 = .ok (.getfield 255, 3) := by decide +kernel
theorem dX12_run_216 : decode cX12_run 216 = .ok (.iaload, 1) := by decide +kernel
theorem dX12_run_217 : decode cX12_run 217 = .ok (.ifCond .ne (-89), 3) := by decide +kernel
theorem dX12_run_220 : decode cX12_run 220 = .ok (.aload_n 0, 1) := by decide +kernel
theorem dX12_run_221 : decode cX12_run 221 = .ok (.invokevirtual 330, 3) := by decide +kernel
theorem dX12_run_224 : decode cX12_run 224 = .ok (.aload_n 0, 1) := by decide +kernel
theorem dX12_run_225 : decode cX12_run 225 = .ok (.getfield 255, 3) := by decide +kernel
theorem dX12_run_228 : decode cX12_run 228 = .ok (.ifCond .gt 10, 3) := by decide +kernel
theorem dX12_run_231 : decode cX12_run 231 = .ok (.aload_n 0, 1) := by decide +kernel
theorem dX12_run_232 : decode cX12_run 232 = .ok (.getfield 133, 3) := by decide +kernel
theorem dX12_run_235 : decode cX12_run 235 = .ok (.ifCond .eq 7, 3) := by decide +kernel
theorem dX12_run_238 : decode cX12_run 238 = .ok (.iconst 1, 1) := by decide +kernel
theorem dX12_run_239 : decode cX12_run 239 = .ok (.goto 4, 3) := by decide +kernel
theorem dX12_run_242 : decode cX12_run 242 = .ok (.iconst 0, 1) := by decide +kernel
theorem dX12_run_243 : decode cX12_run 243 = .ok (.istore_n 1, 1) := by decide +kernel
theorem dX12_run_244 : decode cX12_run 244 = .ok (.aload_n 0, 1) := by decide +kernel
theorem dX12_run_245 : decode cX12_run 245 = .ok (.getfield 255, 3) := by decide +kernel
theorem dX12_run_248 : decode cX12_run 248 = .ok (.ifCond .le (-120), 3) := by decide +kernel
theorem dX12_run_251 : decode cX12_run 251 = .ok (.aload_n 0, 1) := by decide +kernel
theorem dX12_run_252 : decode cX12_run 252 = .ok (.getfield 133, 3) := by decide +kernel
theorem dX12_run_255 : decode cX12_run 255 = .ok (.ifCond .ne (-127), 3) := by decide +kernel
theorem dX12_run_258 : decode cX12_run 258 = .ok (.aload_n 0, 1) := by decide +kernel
theorem dX12_run_259 : decode cX12_run 259 = .ok (.invokevirtual 333, 3) := by decide +kernel
theorem dX12_run_262 : decode cX12_run 262 = .ok (.goto (-134), 3) := by decide +kernel
theorem dX12_run_265 : decode cX12_run 265 = .ok (.aload_n 0, 1) := by decide +kernel
theorem dX12_run_266 : decode cX12_run 266 = .ok (.invokevirtual 336, 3) := by decide +kernel
theorem dX12_run_269 : decode cX12_run 269 = .ok (.return_, 1) := by decide +kernel
theorem dX12_commit_0 : decode cX12_commit 0 = .ok (.sipush 500, 3) := by decide +kernel
theorem dX12_commit_3 : decode cX12_commit 3 = .ok (.aload_n 0, 1) := by decide +kernel
theorem dX12_commit_4 : decode cX12_commit 4 = .ok (.getfield 255, 3) := by decide +kernel
theorem dX12_commit_7 : decode cX12_commit 7 = .ok (.imul, 1) := by decide +kernel
theorem dX12_commit_8 : decode cX12_commit 8 = .ok (.istore_n 1, 1) := by decide +kernel
theorem dX12_commit_9 : decode cX12_commit 9 = .ok (.aload_n 0, 1) := by decide +kernel
theorem dX12_commit_10 : decode cX12_commit 10 = .ok (.getfield 82, 3) := by decide +kernel
theorem dX12_commit_13 : decode cX12_commit 13 = .ok (.aload_n 0, 1) := by decide +kernel
theorem dX12_commit_14 : decode cX12_commit 14 = .ok (.getfield 255, 3) := by decide +kernel
theorem dX12_commit_17 : decode cX12_commit 17 = .ok (.iaload, 1) := by decide +kernel
theorem dX12_commit_18 : decode cX12_commit 18 = .ok (.istore_n 2, 1) := by decide +kernel
theorem dX12_commit_19 : decode cX12_commit 19 = .ok (.aload_n 0, 1) := by decide +kernel
theorem dX12_commit_20 : decode cX12_commit 20 = .ok (.dup, 1) := by decide +kernel
theorem dX12_commit_21 : decode cX12_commit 21 = .ok (.getfield 255, 3) := by decide +kernel
theorem dX12_commit_24 : decode cX12_commit 24 = .ok (.iconst 1, 1) := by decide +kernel
theorem dX12_commit_25 : decode cX12_commit 25 = .ok (.isub, 1) := by decide +kernel
theorem dX12_commit_26 : decode cX12_commit 26 = .ok (.putfield 255, 3) := by decide +kernel
theorem dX12_commit_29 : decode cX12_commit 29 = .ok (.iconst 0, 1) := by decide +kernel
theorem dX12_commit_30 : decode cX12_commit 30 = .ok (.istore_n 3, 1) := by decide +kernel
theorem dX12_commit_31 : decode cX12_commit 31 = .ok (.iload_n 3, 1) := by decide +kernel
theorem dX12_commit_32 : decode cX12_commit 32 = .ok (.iload_n 2, 1) := by decide +kernel
theorem dX12_commit_33 : decode cX12_commit 33 = .ok (.if_icmp .ge 21, 3) := by decide +kernel
theorem dX12_commit_36 : decode cX12_commit 36 = .ok (.aload_n 0, 1) := by decide +kernel
theorem dX12_commit_37 : decode cX12_commit 37 = .ok (.aload_n 0, 1) := by decide +kernel
theorem dX12_commit_38 : decode cX12_commit 38 = .ok (.getfield 79, 3) := by decide +kernel
theorem dX12_commit_41 : decode cX12_commit 41 = .ok (.iload_n 1, 1) := by decide +kernel
theorem dX12_commit_42 : decode cX12_commit 42 = .ok (.iload_n 3, 1) := by decide +kernel
theorem dX12_commit_43 : decode cX12_commit 43 = .ok (.iadd, 1) := by decide +kernel
theorem dX12_commit_44 : decode cX12_commit 44 = .ok (.iaload, 1) := by decide +kernel
theorem dX12_commit_45 : decode cX12_commit 45 = .ok (.invokevirtual 297, 3) := by decide +kernel
theorem dX12_commit_48 : decode cX12_commit 48 = .ok (.iinc 3 1, 3) := by decide +kernel
theorem dX12_commit_51 : decode cX12_commit 51 = .ok (.goto (-20), 3) := by decide +kernel
theorem dX12_commit_54 : decode cX12_commit 54 = .ok (.return_, 1) := by decide +kernel
theorem dX12_finish_0 : decode cX12_finish 0 = .ok (.aload_n 0, 1) := by decide +kernel
theorem dX12_finish_1 : decode cX12_finish 1 = .ok (.getfield 7, 3) := by decide +kernel
theorem dX12_finish_4 : decode cX12_finish 4 = .ok (.sipush 7041, 3) := by decide +kernel
theorem dX12_finish_7 : decode cX12_finish 7 = .ok (.aload_n 0, 1) := by decide +kernel
theorem dX12_finish_8 : decode cX12_finish 8 = .ok (.getfield 82, 3) := by decide +kernel
theorem dX12_finish_11 : decode cX12_finish 11 = .ok (.iconst 0, 1) := by decide +kernel
theorem dX12_finish_12 : decode cX12_finish 12 = .ok (.iaload, 1) := by decide +kernel
theorem dX12_finish_13 : decode cX12_finish 13 = .ok (.iastore, 1) := by decide +kernel
theorem dX12_finish_14 : decode cX12_finish 14 = .ok (.iconst 0, 1) := by decide +kernel
theorem dX12_finish_15 : decode cX12_finish 15 = .ok (.istore_n 1, 1) := by decide +kernel
theorem dX12_finish_16 : decode cX12_finish 16 = .ok (.iload_n 1, 1) := by decide +kernel
theorem dX12_finish_17 : decode cX12_finish 17 = .ok (.aload_n 0, 1) := by decide +kernel
theorem dX12_finish_18 : decode cX12_finish 18 = .ok (.getfield 82, 3) := by decide +kernel
theorem dX12_finish_21 : decode cX12_finish 21 = .ok (.iconst 0, 1) := by decide +kernel
theorem dX12_finish_22 : decode cX12_finish 22 = .ok (.iaload, 1) := by decide +kernel
theorem dX12_finish_23 : decode cX12_finish 23 = .ok (.if_icmp .ge 54, 3) := by decide +kernel
theorem dX12_finish_26 : decode cX12_finish 26 = .ok (.iconst 0, 1) := by decide +kernel
theorem dX12_finish_27 : decode cX12_finish 27 = .ok (.istore_n 2, 1) := by decide +kernel
theorem dX12_finish_28 : decode cX12_finish 28 = .ok (.iload_n 2, 1) := by decide +kernel
theorem dX12_finish_29 : decode cX12_finish 29 = .ok (.bipush 9, 2) := by decide +kernel
theorem dX12_finish_31 : decode cX12_finish 31 = .ok (.if_icmp .ge 40, 3) := by decide +kernel
theorem dX12_finish_34 : decode cX12_finish 34 = .ok (.aload_n 0, 1) := by decide +kernel
theorem dX12_finish_35 : decode cX12_finish 35 = .ok (.getfield 7, 3) := by decide +kernel
theorem dX12_finish_38 : decode cX12_finish 38 = .ok (.sipush 7042, 3) := by decide +kernel
theorem dX12_finish_41 : decode cX12_finish 41 = .ok (.bipush 9, 2) := by decide +kernel
theorem dX12_finish_43 : decode cX12_finish 43 = .ok (.iload_n 1, 1) := by decide +kernel
theorem dX12_finish_44 : decode cX12_finish 44 = .ok (.imul, 1) := by decide +kernel
theorem dX12_finish_45 : decode cX12_finish 45 = .ok (.iadd, 1) := by decide +kernel
theorem dX12_finish_46 : decode cX12_finish 46 = .ok (.iload_n 2, 1) := by decide +kernel
theorem dX12_finish_47 : decode cX12_finish 47 = .ok (.iadd, 1) := by decide +kernel
theorem dX12_finish_48 : decode cX12_finish 48 = .ok (.aload_n 0, 1) := by decide +kernel
theorem dX12_finish_49 : decode cX12_finish 49 = .ok (.getfield 58, 3) := by decide +kernel
theorem dX12_finish_52 : decode cX12_finish 52 = .ok (.bipush 9, 2) := by decide +kernel
theorem dX12_finish_54 : decode cX12_finish 54 = .ok (.aload_n 0, 1) := by decide +kernel
theorem dX12_finish_55 : decode cX12_finish 55 = .ok (.getfield 79, 3) := by decide +kernel
theorem dX12_finish_58 : decode cX12_finish 58 = .ok (.iload_n 1, 1) := by decide +kernel
theorem dX12_finish_59 : decode cX12_finish 59 = .ok (.iaload, 1) := by decide +kernel
theorem dX12_finish_60 : decode cX12_finish 60 = .ok (.imul, 1) := by decide +kernel
theorem dX12_finish_61 : decode cX12_finish 61 = .ok (.iload_n 2, 1) := by decide +kernel
theorem dX12_finish_62 : decode cX12_finish 62 = .ok (.iadd, 1) := by decide +kernel
theorem dX12_finish_63 : decode cX12_finish 63 = .ok (.iaload, 1) := by decide +kernel
theorem dX12_finish_64 : decode cX12_finish 64 = .ok (.iastore, 1) := by decide +kernel
theorem dX12_finish_65 : decode cX12_finish 65 = .ok (.iinc 2 1, 3) := by decide +kernel
theorem dX12_finish_68 : decode cX12_finish 68 = .ok (.goto (-40), 3) := by decide +kernel
theorem dX12_finish_71 : decode cX12_finish 71 = .ok (.iinc 1 1, 3) := by decide +kernel
theorem dX12_finish_74 : decode cX12_finish 74 = .ok (.goto (-58), 3) := by decide +kernel
theorem dX12_finish_77 : decode cX12_finish 77 = .ok (.aload_n 0, 1) := by decide +kernel
theorem dX12_finish_78 : decode cX12_finish 78 = .ok (.getfield 133, 3) := by decide +kernel
theorem dX12_finish_81 : decode cX12_finish 81 = .ok (.ifCond .eq 13, 3) := by decide +kernel
theorem dX12_finish_84 : decode cX12_finish 84 = .ok (.aload_n 0, 1) := by decide +kernel
theorem dX12_finish_85 : decode cX12_finish 85 = .ok (.getfield 7, 3) := by decide +kernel
theorem dX12_finish_88 : decode cX12_finish 88 = .ok (.sipush 7040, 3) := by decide +kernel
theorem dX12_finish_91 : decode cX12_finish 91 = .ok (.iconst 1, 1) := by decide +kernel
theorem dX12_finish_92 : decode cX12_finish 92 = .ok (.iastore, 1) := by decide +kernel
theorem dX12_finish_93 : decode cX12_finish 93 = .ok (.return_, 1) := by decide +kernel
theorem dX12_finish_94 : decode cX12_finish 94 = .ok (.iconst 0, 1) := by decide +kernel
theorem dX12_finish_95 : decode cX12_finish 95 = .ok (.istore_n 1, 1) := by decide +kernel
theorem dX12_finish_96 : decode cX12_finish 96 = .ok (.iload_n 1, 1) := by decide +kernel
theorem dX12_finish_97 : decode cX12_finish 97 = .ok (.aload_n 0, 1) := by decide +kernel
theorem dX12_finish_98 : decode cX12_finish 98 = .ok (.getfield 7, 3) := by decide +kernel
theorem dX12_finish_101 : decode cX12_finish 101 = .ok (.bipush 121, 2) := by decide +kernel
theorem dX12_finish_103 : decode cX12_finish 103 = .ok (.iaload, 1) := by decide +kernel
theorem dX12_finish_104 : decode cX12_finish 104 = .ok (.if_icmp .ge 47, 3) := by decide +kernel
theorem dX12_finish_107 : decode cX12_finish 107 = .ok (.aload_n 0, 1) := by decide +kernel
theorem dX12_finish_108 : decode cX12_finish 108 = .ok (.getfield 7, 3) := by decide +kernel
theorem dX12_finish_111 : decode cX12_finish 111 = .ok (.sipush 422, 3) := by decide +kernel
theorem dX12_finish_114 : decode cX12_finish 114 = .ok (.iload_n 1, 1) := by decide +kernel
theorem dX12_finish_115 : decode cX12_finish 115 = .ok (.iadd, 1) := by decide +kernel
theorem dX12_finish_116 : decode cX12_finish 116 = .ok (.aload_n 0, 1) := by decide +kernel
theorem dX12_finish_117 : decode cX12_finish 117 = .ok (.getfield 7, 3) := by decide +kernel
theorem dX12_finish_120 : decode cX12_finish 120 = .ok (.sipush 522, 3) := by decide +kernel
theorem dX12_finish_123 : decode cX12_finish 123 = .ok (.iload_n 1, 1) := by decide +kernel
theorem dX12_finish_124 : decode cX12_finish 124 = .ok (.iadd, 1) := by decide +kernel
theorem dX12_finish_125 : decode cX12_finish 125 = .ok (.iaload, 1) := by decide +kernel
theorem dX12_finish_126 : decode cX12_finish 126 = .ok (.iconst 1, 1) := by decide +kernel
theorem dX12_finish_127 : decode cX12_finish 127 = .ok (.if_icmp .ne 16, 3) := by decide +kernel
theorem dX12_finish_130 : decode cX12_finish 130 = .ok (.aload_n 0, 1) := by decide +kernel
theorem dX12_finish_131 : decode cX12_finish 131 = .ok (.getfield 7, 3) := by decide +kernel
theorem dX12_finish_134 : decode cX12_finish 134 = .ok (.sipush 422, 3) := by decide +kernel
theorem dX12_finish_137 : decode cX12_finish 137 = .ok (.iload_n 1, 1) := by decide +kernel
theorem dX12_finish_138 : decode cX12_finish 138 = .ok (.iadd, 1) := by decide +kernel
theorem dX12_finish_139 : decode cX12_finish 139 = .ok (.iaload, 1) := by decide +kernel
theorem dX12_finish_140 : decode cX12_finish 140 = .ok (.goto 4, 3) := by decide +kernel
theorem dX12_finish_143 : decode cX12_finish 143 = .ok (.iconst 0, 1) := by decide +kernel
theorem dX12_finish_144 : decode cX12_finish 144 = .ok (.iastore, 1) := by decide +kernel
theorem dX12_finish_145 : decode cX12_finish 145 = .ok (.iinc 1 1, 3) := by decide +kernel
theorem dX12_finish_148 : decode cX12_finish 148 = .ok (.goto (-52), 3) := by decide +kernel
theorem dX12_finish_151 : decode cX12_finish 151 = .ok (.aload_n 0, 1) := by decide +kernel
theorem dX12_finish_152 : decode cX12_finish 152 = .ok (.getfield 7, 3) := by decide +kernel
theorem dX12_finish_155 : decode cX12_finish 155 = .ok (.sipush 7039, 3) := by decide +kernel
theorem dX12_finish_158 : decode cX12_finish 158 = .ok (.dup2, 1) := by decide +kernel
theorem dX12_finish_159 : decode cX12_finish 159 = .ok (.iaload, 1) := by decide +kernel
theorem dX12_finish_160 : decode cX12_finish 160 = .ok (.iconst 1, 1) := by decide +kernel
theorem dX12_finish_161 : decode cX12_finish 161 = .ok (.iadd, 1) := by decide +kernel
theorem dX12_finish_162 : decode cX12_finish 162 = .ok (.iastore, 1) := by decide +kernel
theorem dX12_finish_163 : decode cX12_finish 163 = .ok (.return_, 1) := by decide +kernel
theorem dX12_isOutside_0 : decode cX12_isOutside 0 = .ok (.iload_n 1, 1) := by decide +kernel
theorem dX12_isOutside_1 : decode cX12_isOutside 1 = .ok (.invokestatic 126, 3) := by decide +kernel
theorem dX12_isOutside_4 : decode cX12_isOutside 4 = .ok (.ifCond .ne 25, 3) := by decide +kernel
theorem dX12_isOutside_7 : decode cX12_isOutside 7 = .ok (.iload_n 1, 1) := by decide +kernel
theorem dX12_isOutside_8 : decode cX12_isOutside 8 = .ok (.sipush 400, 3) := by decide +kernel
theorem dX12_isOutside_11 : decode cX12_isOutside 11 = .ok (.sipush 400, 3) := by decide +kernel
theorem dX12_isOutside_14 : decode cX12_isOutside 14 = .ok (.aload_n 0, 1) := by decide +kernel
theorem dX12_isOutside_15 : decode cX12_isOutside 15 = .ok (.getfield 7, 3) := by decide +kernel
theorem dX12_isOutside_18 : decode cX12_isOutside 18 = .ok (.iconst 0, 1) := by decide +kernel
theorem dX12_isOutside_19 : decode cX12_isOutside 19 = .ok (.iaload, 1) := by decide +kernel
theorem dX12_isOutside_20 : decode cX12_isOutside 20 = .ok (.iadd, 1) := by decide +kernel
theorem dX12_isOutside_21 : decode cX12_isOutside 21 = .ok (.iconst 1, 1) := by decide +kernel
theorem dX12_isOutside_22 : decode cX12_isOutside 22 = .ok (.isub, 1) := by decide +kernel
theorem dX12_isOutside_23 : decode cX12_isOutside 23 = .ok (.invokestatic 122, 3) := by decide +kernel
theorem dX12_isOutside_26 : decode cX12_isOutside 26 = .ok (.ifCond .eq 7, 3) := by decide +kernel
theorem dX12_isOutside_29 : decode cX12_isOutside 29 = .ok (.iconst 1, 1) := by decide +kernel
theorem dX12_isOutside_30 : decode cX12_isOutside 30 = .ok (.goto 4, 3) := by decide +kernel
theorem dX12_isOutside_33 : decode cX12_isOutside 33 = .ok (.iconst 0, 1) := by decide +kernel
theorem dX12_isOutside_34 : decode cX12_isOutside 34 = .ok (.ireturn, 1) := by decide +kernel
theorem dX12_begin_0 : decode cX12_begin 0 = .ok (.aload_n 0, 1) := by decide +kernel
theorem dX12_begin_1 : decode cX12_begin 1 = .ok (.iconst 0, 1) := by decide +kernel
theorem dX12_begin_2 : decode cX12_begin 2 = .ok (.putfield 118, 3) := by decide +kernel
theorem dX12_begin_5 : decode cX12_begin 5 = .ok (.aload_n 0, 1) := by decide +kernel
theorem dX12_begin_6 : decode cX12_begin 6 = .ok (.iload_n 1, 1) := by decide +kernel
theorem dX12_begin_7 : decode cX12_begin 7 = .ok (.invokevirtual 225, 3) := by decide +kernel
theorem dX12_begin_10 : decode cX12_begin 10 = .ok (.ifCond .eq 33, 3) := by decide +kernel
theorem dX12_begin_13 : decode cX12_begin 13 = .ok (.iload_n 2, 1) := by decide +kernel
theorem dX12_begin_14 : decode cX12_begin 14 = .ok (.sipush 400, 3) := by decide +kernel
theorem dX12_begin_17 : decode cX12_begin 17 = .ok (.if_icmp .lt 11, 3) := by decide +kernel
theorem dX12_begin_20 : decode cX12_begin 20 = .ok (.aload_n 0, 1) := by decide +kernel
theorem dX12_begin_21 : decode cX12_begin 21 = .ok (.iload_n 2, 1) := by decide +kernel
theorem dX12_begin_22 : decode cX12_begin 22 = .ok (.invokevirtual 339, 3) := by decide +kernel
theorem dX12_begin_25 : decode cX12_begin 25 = .ok (.ifCond .eq 18, 3) := by decide +kernel
theorem dX12_begin_28 : decode cX12_begin 28 = .ok (.iload_n 3, 1) := by decide +kernel
theorem dX12_begin_29 : decode cX12_begin 29 = .ok (.sipush 400, 3) := by decide +kernel
theorem dX12_begin_32 : decode cX12_begin 32 = .ok (.if_icmp .lt 17, 3) := by decide +kernel
theorem dX12_begin_35 : decode cX12_begin 35 = .ok (.aload_n 0, 1) := by decide +kernel
theorem dX12_begin_36 : decode cX12_begin 36 = .ok (.iload_n 3, 1) := by decide +kernel
theorem dX12_begin_37 : decode cX12_begin 37 = .ok (.invokevirtual 339, 3) := by decide +kernel
theorem dX12_begin_40 : decode cX12_begin 40 = .ok (.ifCond .ne 9, 3) := by decide +kernel
theorem dX12_begin_43 : decode cX12_begin 43 = .ok (.aload_n 0, 1) := by decide +kernel
theorem dX12_begin_44 : decode cX12_begin 44 = .ok (.iconst 1, 1) := by decide +kernel
theorem dX12_begin_45 : decode cX12_begin 45 = .ok (.invokevirtual 137, 3) := by decide +kernel
theorem dX12_begin_48 : decode cX12_begin 48 = .ok (.ireturn, 1) := by decide +kernel
theorem dX12_begin_49 : decode cX12_begin 49 = .ok (.aload_n 0, 1) := by decide +kernel
theorem dX12_begin_50 : decode cX12_begin 50 = .ok (.iload_n 2, 1) := by decide +kernel
theorem dX12_begin_51 : decode cX12_begin 51 = .ok (.invokevirtual 339, 3) := by decide +kernel
theorem dX12_begin_54 : decode cX12_begin 54 = .ok (.ifCond .eq 11, 3) := by decide +kernel
theorem dX12_begin_57 : decode cX12_begin 57 = .ok (.aload_n 0, 1) := by decide +kernel
theorem dX12_begin_58 : decode cX12_begin 58 = .ok (.iload_n 3, 1) := by decide +kernel
theorem dX12_begin_59 : decode cX12_begin 59 = .ok (.invokevirtual 339, 3) := by decide +kernel
theorem dX12_begin_62 : decode cX12_begin 62 = .ok (.ifCond .ne 9, 3) := by decide +kernel
theorem dX12_begin_65 : decode cX12_begin 65 = .ok (.aload_n 0, 1) := by decide +kernel
theorem dX12_begin_66 : decode cX12_begin 66 = .ok (.iconst 2, 1) := by decide +kernel
theorem dX12_begin_67 : decode cX12_begin 67 = .ok (.invokevirtual 137, 3) := by decide +kernel
theorem dX12_begin_70 : decode cX12_begin 70 = .ok (.ireturn, 1) := by decide +kernel
theorem dX12_begin_71 : decode cX12_begin 71 = .ok (.aload_n 0, 1) := by decide +kernel
theorem dX12_begin_72 : decode cX12_begin 72 = .ok (.getfield 7, 3) := by decide +kernel
theorem dX12_begin_75 : decode cX12_begin 75 = .ok (.sipush 7040, 3) := by decide +kernel
theorem dX12_begin_78 : decode cX12_begin 78 = .ok (.iaload, 1) := by decide +kernel
theorem dX12_begin_79 : decode cX12_begin 79 = .ok (.iconst 1, 1) := by decide +kernel
theorem dX12_begin_80 : decode cX12_begin 80 = .ok (.if_icmp .eq 16, 3) := by decide +kernel
theorem dX12_begin_83 : decode cX12_begin 83 = .ok (.aload_n 0, 1) := by decide +kernel
theorem dX12_begin_84 : decode cX12_begin 84 = .ok (.getfield 7, 3) := by decide +kernel
theorem dX12_begin_87 : decode cX12_begin 87 = .ok (.sipush 7041, 3) := by decide +kernel
theorem dX12_begin_90 : decode cX12_begin 90 = .ok (.iaload, 1) := by decide +kernel
theorem dX12_begin_91 : decode cX12_begin 91 = .ok (.bipush 30, 2) := by decide +kernel
theorem dX12_begin_93 : decode cX12_begin 93 = .ok (.if_icmp .lt 9, 3) := by decide +kernel
theorem dX12_begin_96 : decode cX12_begin 96 = .ok (.aload_n 0, 1) := by decide +kernel
theorem dX12_begin_97 : decode cX12_begin 97 = .ok (.iconst 3, 1) := by decide +kernel
theorem dX12_begin_98 : decode cX12_begin 98 = .ok (.invokevirtual 137, 3) := by decide +kernel
theorem dX12_begin_101 : decode cX12_begin 101 = .ok (.ireturn, 1) := by decide +kernel
theorem dX12_begin_102 : decode cX12_begin 102 = .ok (.sipush 7042, 3) := by decide +kernel
theorem dX12_begin_105 : decode cX12_begin 105 = .ok (.bipush 9, 2) := by decide +kernel
theorem dX12_begin_107 : decode cX12_begin 107 = .ok (.aload_n 0, 1) := by decide +kernel
theorem dX12_begin_108 : decode cX12_begin 108 = .ok (.getfield 7, 3) := by decide +kernel
theorem dX12_begin_111 : decode cX12_begin 111 = .ok (.sipush 7041, 3) := by decide +kernel
theorem dX12_begin_114 : decode cX12_begin 114 = .ok (.iaload, 1) := by decide +kernel
theorem dX12_begin_115 : decode cX12_begin 115 = .ok (.imul, 1) := by decide +kernel
theorem dX12_begin_116 : decode cX12_begin 116 = .ok (.iadd, 1) := by decide +kernel
theorem dX12_begin_117 : decode cX12_begin 117 = .ok (.istore 4, 2) := by decide +kernel
theorem dX12_begin_119 : decode cX12_begin 119 = .ok (.iconst 0, 1) := by decide +kernel
theorem dX12_begin_120 : decode cX12_begin 120 = .ok (.istore 5, 2) := by decide +kernel
theorem dX12_begin_122 : decode cX12_begin 122 = .ok (.iload 5, 2) := by decide +kernel
theorem dX12_begin_124 : decode cX12_begin 124 = .ok (.bipush 9, 2) := by decide +kernel
theorem dX12_begin_126 : decode cX12_begin 126 = .ok (.if_icmp .ge 20, 3) := by decide +kernel
theorem dX12_begin_129 : decode cX12_begin 129 = .ok (.aload_n 0, 1) := by decide +kernel
theorem dX12_begin_130 : decode cX12_begin 130 = .ok (.getfield 7, 3) := by decide +kernel
theorem dX12_begin_133 : decode cX12_begin 133 = .ok (.iload 4, 2) := by decide +kernel
theorem dX12_begin_135 : decode cX12_begin 135 = .ok (.iload 5, 2) := by decide +kernel
theorem dX12_begin_137 : decode cX12_begin 137 = .ok (.iadd, 1) := by decide +kernel
theorem dX12_begin_138 : decode cX12_begin 138 = .ok (.iconst 0, 1) := by decide +kernel
theorem dX12_begin_139 : decode cX12_begin 139 = .ok (.iastore, 1) := by decide +kernel
theorem dX12_begin_140 : decode cX12_begin 140 = .ok (.iinc 5 1, 3) := by decide +kernel
theorem dX12_begin_143 : decode cX12_begin 143 = .ok (.goto (-21), 3) := by decide +kernel
theorem dX12_begin_146 : decode cX12_begin 146 = .ok (.aload_n 0, 1) := by decide +kernel
theorem dX12_begin_147 : decode cX12_begin 147 = .ok (.getfield 7, 3) := by decide +kernel
theorem dX12_begin_150 : decode cX12_begin 150 = .ok (.iload 4, 2) := by decide +kernel
theorem dX12_begin_152 : decode cX12_begin 152 = .ok (.iload_n 1, 1) := by decide +kernel
theorem dX12_begin_153 : decode cX12_begin 153 = .ok (.iastore, 1) := by decide +kernel
theorem dX12_begin_154 : decode cX12_begin 154 = .ok (.aload_n 0, 1) := by decide +kernel
theorem dX12_begin_155 : decode cX12_begin 155 = .ok (.getfield 7, 3) := by decide +kernel
theorem dX12_begin_158 : decode cX12_begin 158 = .ok (.iload 4, 2) := by decide +kernel
theorem dX12_begin_160 : decode cX12_begin 160 = .ok (.iconst 1, 1) := by decide +kernel
theorem dX12_begin_161 : decode cX12_begin 161 = .ok (.iadd, 1) := by decide +kernel
theorem dX12_begin_162 : decode cX12_begin 162 = .ok (.iload_n 2, 1) := by decide +kernel
theorem dX12_begin_163 : decode cX12_begin 163 = .ok (.iastore, 1) := by decide +kernel
theorem dX12_begin_164 : decode cX12_begin 164 = .ok (.aload_n 0, 1) := by decide +kernel
theorem dX12_begin_165 : decode cX12_begin 165 = .ok (.getfield 7, 3) := by decide +kernel
theorem dX12_begin_168 : decode cX12_begin 168 = .ok (.iload 4, 2) := by decide +kernel
theorem dX12_begin_170 : decode cX12_begin 170 = .ok (.iconst 2, 1) := by decide +kernel
theorem dX12_begin_171 : decode cX12_begin 171 = .ok (.iadd, 1) := by decide +kernel
theorem dX12_begin_172 : decode cX12_begin 172 = .ok (.iload_n 3, 1) := by decide +kernel
theorem dX12_begin_173 : decode cX12_begin 173 = .ok (.iastore, 1) := by decide +kernel
theorem dX12_begin_174 : decode cX12_begin 174 = .ok (.aload_n 0, 1) := by decide +kernel
theorem dX12_begin_175 : decode cX12_begin 175 = .ok (.getfield 7, 3) := by decide +kernel
theorem dX12_begin_178 : decode cX12_begin 178 = .ok (.sipush 7041, 3) := by decide +kernel
theorem dX12_begin_181 : decode cX12_begin 181 = .ok (.dup2, 1) := by decide +kernel
theorem dX12_begin_182 : decode cX12_begin 182 = .ok (.iaload, 1) := by decide +kernel
theorem dX12_begin_183 : decode cX12_begin 183 = .ok (.iconst 1, 1) := by decide +kernel
theorem dX12_begin_184 : decode cX12_begin 184 = .ok (.iadd, 1) := by decide +kernel
theorem dX12_begin_185 : decode cX12_begin 185 = .ok (.iastore, 1) := by decide +kernel
theorem dX12_begin_186 : decode cX12_begin 186 = .ok (.aload_n 0, 1) := by decide +kernel
theorem dX12_begin_187 : decode cX12_begin 187 = .ok (.getfield 7, 3) := by decide +kernel
theorem dX12_begin_190 : decode cX12_begin 190 = .ok (.sipush 7041, 3) := by decide +kernel
theorem dX12_begin_193 : decode cX12_begin 193 = .ok (.iaload, 1) := by decide +kernel
theorem dX12_begin_194 : decode cX12_begin 194 = .ok (.ireturn, 1) := by decide +kernel
theorem dX12_step_0 : decode cX12_step 0 = .ok (.aload_n 0, 1) := by decide +kernel
theorem dX12_step_1 : decode cX12_step 1 = .ok (.iconst 0, 1) := by decide +kernel
theorem dX12_step_2 : decode cX12_step 2 = .ok (.putfield 118, 3) := by decide +kernel
theorem dX12_step_5 : decode cX12_step 5 = .ok (.aload_n 0, 1) := by decide +kernel
theorem dX12_step_6 : decode cX12_step 6 = .ok (.getfield 7, 3) := by decide +kernel
theorem dX12_step_9 : decode cX12_step 9 = .ok (.sipush 7040, 3) := by decide +kernel
theorem dX12_step_12 : decode cX12_step 12 = .ok (.iaload, 1) := by decide +kernel
theorem dX12_step_13 : decode cX12_step 13 = .ok (.iconst 1, 1) := by decide +kernel
theorem dX12_step_14 : decode cX12_step 14 = .ok (.if_icmp .eq 16, 3) := by decide +kernel
theorem dX12_step_17 : decode cX12_step 17 = .ok (.aload_n 0, 1) := by decide +kernel
theorem dX12_step_18 : decode cX12_step 18 = .ok (.getfield 7, 3) := by decide +kernel
theorem dX12_step_21 : decode cX12_step 21 = .ok (.sipush 9742, 3) := by decide +kernel
theorem dX12_step_24 : decode cX12_step 24 = .ok (.iaload, 1) := by decide +kernel
theorem dX12_step_25 : decode cX12_step 25 = .ok (.bipush 30, 2) := by decide +kernel
theorem dX12_step_27 : decode cX12_step 27 = .ok (.if_icmp .ne 9, 3) := by decide +kernel
theorem dX12_step_30 : decode cX12_step 30 = .ok (.aload_n 0, 1) := by decide +kernel
theorem dX12_step_31 : decode cX12_step 31 = .ok (.iconst 1, 1) := by decide +kernel
theorem dX12_step_32 : decode cX12_step 32 = .ok (.invokevirtual 137, 3) := by decide +kernel
theorem dX12_step_35 : decode cX12_step 35 = .ok (.ireturn, 1) := by decide +kernel
theorem dX12_step_36 : decode cX12_step 36 = .ok (.aload_n 0, 1) := by decide +kernel
theorem dX12_step_37 : decode cX12_step 37 = .ok (.getfield 7, 3) := by decide +kernel
theorem dX12_step_40 : decode cX12_step 40 = .ok (.sipush 9742, 3) := by decide +kernel
theorem dX12_step_43 : decode cX12_step 43 = .ok (.dup2, 1) := by decide +kernel
theorem dX12_step_44 : decode cX12_step 44 = .ok (.iaload, 1) := by decide +kernel
theorem dX12_step_45 : decode cX12_step 45 = .ok (.iconst 1, 1) := by decide +kernel
theorem dX12_step_46 : decode cX12_step 46 = .ok (.iadd, 1) := by decide +kernel
theorem dX12_step_47 : decode cX12_step 47 = .ok (.iastore, 1) := by decide +kernel
theorem dX12_step_48 : decode cX12_step 48 = .ok (.aload_n 0, 1) := by decide +kernel
theorem dX12_step_49 : decode cX12_step 49 = .ok (.iconst 0, 1) := by decide +kernel
theorem dX12_step_50 : decode cX12_step 50 = .ok (.putfield 306, 3) := by decide +kernel
theorem dX12_step_53 : decode cX12_step 53 = .ok (.aload_n 0, 1) := by decide +kernel
theorem dX12_step_54 : decode cX12_step 54 = .ok (.invokevirtual 342, 3) := by decide +kernel
theorem dX12_step_57 : decode cX12_step 57 = .ok (.aload_n 0, 1) := by decide +kernel
theorem dX12_step_58 : decode cX12_step 58 = .ok (.getfield 181, 3) := by decide +kernel
theorem dX12_step_61 : decode cX12_step 61 = .ok (.ireturn, 1) := by decide +kernel
theorem dX12_seed_0 : decode cX12_seed 0 = .ok (.aload_n 0, 1) := by decide +kernel
theorem dX12_seed_1 : decode cX12_seed 1 = .ok (.iconst 0, 1) := by decide +kernel
theorem dX12_seed_2 : decode cX12_seed 2 = .ok (.putfield 118, 3) := by decide +kernel
theorem dX12_seed_5 : decode cX12_seed 5 = .ok (.iload_n 1, 1) := by decide +kernel
theorem dX12_seed_6 : decode cX12_seed 6 = .ok (.iconst 0, 1) := by decide +kernel
theorem dX12_seed_7 : decode cX12_seed 7 = .ok (.ldc_w 345, 3) := by decide +kernel
theorem dX12_seed_10 : decode cX12_seed 10 = .ok (.invokestatic 122, 3) := by decide +kernel
theorem dX12_seed_13 : decode cX12_seed 13 = .ok (.ifCond .ne 9, 3) := by decide +kernel
theorem dX12_seed_16 : decode cX12_seed 16 = .ok (.aload_n 0, 1) := by decide +kernel
theorem dX12_seed_17 : decode cX12_seed 17 = .ok (.iconst 1, 1) := by decide +kernel
theorem dX12_seed_18 : decode cX12_seed 18 = .ok (.invokevirtual 137, 3) := by decide +kernel
theorem dX12_seed_21 : decode cX12_seed 21 = .ok (.ireturn, 1) := by decide +kernel
theorem dX12_seed_22 : decode cX12_seed 22 = .ok (.aload_n 0, 1) := by decide +kernel
theorem dX12_seed_23 : decode cX12_seed 23 = .ok (.getfield 7, 3) := by decide +kernel
theorem dX12_seed_26 : decode cX12_seed 26 = .ok (.sipush 7038, 3) := by decide +kernel
theorem dX12_seed_29 : decode cX12_seed 29 = .ok (.iaload, 1) := by decide +kernel
theorem dX12_seed_30 : decode cX12_seed 30 = .ok (.istore_n 2, 1) := by decide +kernel
theorem dX12_seed_31 : decode cX12_seed 31 = .ok (.aload_n 0, 1) := by decide +kernel
theorem dX12_seed_32 : decode cX12_seed 32 = .ok (.getfield 7, 3) := by decide +kernel
theorem dX12_seed_35 : decode cX12_seed 35 = .ok (.sipush 7038, 3) := by decide +kernel
theorem dX12_seed_38 : decode cX12_seed 38 = .ok (.iload_n 1, 1) := by decide +kernel
theorem dX12_seed_39 : decode cX12_seed 39 = .ok (.iastore, 1) := by decide +kernel
theorem dX12_seed_40 : decode cX12_seed 40 = .ok (.iload_n 2, 1) := by decide +kernel
theorem dX12_seed_41 : decode cX12_seed 41 = .ok (.ireturn, 1) := by decide +kernel
theorem dX12_asTold_0 : decode cX12_asTold 0 = .ok (.aload_n 0, 1) := by decide +kernel
theorem dX12_asTold_1 : decode cX12_asTold 1 = .ok (.iload_n 1, 1) := by decide +kernel
theorem dX12_asTold_2 : decode cX12_asTold 2 = .ok (.invokevirtual 145, 3) := by decide +kernel
theorem dX12_asTold_5 : decode cX12_asTold 5 = .ok (.istore_n 2, 1) := by decide +kernel
theorem dX12_asTold_6 : decode cX12_asTold 6 = .ok (.iload_n 2, 1) := by decide +kernel
theorem dX12_asTold_7 : decode cX12_asTold 7 = .ok (.bipush 100, 2) := by decide +kernel
theorem dX12_asTold_9 : decode cX12_asTold 9 = .ok (.if_icmp .eq 7, 3) := by decide +kernel
theorem dX12_asTold_12 : decode cX12_asTold 12 = .ok (.iload_n 2, 1) := by decide +kernel
theorem dX12_asTold_13 : decode cX12_asTold 13 = .ok (.goto 19, 3) := by decide +kernel
theorem dX12_asTold_16 : decode cX12_asTold 16 = .ok (.sipush 400, 3) := by decide +kernel
theorem dX12_asTold_19 : decode cX12_asTold 19 = .ok (.aload_n 0, 1) := by decide +kernel
theorem dX12_asTold_20 : decode cX12_asTold 20 = .ok (.getfield 7, 3) := by decide +kernel
theorem dX12_asTold_23 : decode cX12_asTold 23 = .ok (.iconst 1, 1) := by decide +kernel
theorem dX12_asTold_24 : decode cX12_asTold 24 = .ok (.iload_n 1, 1) := by decide +kernel
theorem dX12_asTold_25 : decode cX12_asTold 25 = .ok (.iadd, 1) := by decide +kernel
theorem dX12_asTold_26 : decode cX12_asTold 26 = .ok (.sipush 400, 3) := by decide +kernel
theorem dX12_asTold_29 : decode cX12_asTold 29 = .ok (.isub, 1) := by decide +kernel
theorem dX12_asTold_30 : decode cX12_asTold 30 = .ok (.iaload, 1) := by decide +kernel
theorem dX12_asTold_31 : decode cX12_asTold 31 = .ok (.iadd, 1) := by decide +kernel
theorem dX12_asTold_32 : decode cX12_asTold 32 = .ok (.ireturn, 1) := by decide +kernel
theorem dX12_layEnd_0 : decode cX12_layEnd 0 = .ok (.aload_n 0, 1) := by decide +kernel
theorem dX12_layEnd_1 : decode cX12_layEnd 1 = .ok (.getfield 115, 3) := by decide +kernel
theorem dX12_layEnd_4 : decode cX12_layEnd 4 = .ok (.iconst 0, 1) := by decide +kernel
theorem dX12_layEnd_5 : decode cX12_layEnd 5 = .ok (.aload_n 0, 1) := by decide +kernel
theorem dX12_layEnd_6 : decode cX12_layEnd 6 = .ok (.getfield 7, 3) := by decide +kernel
theorem dX12_layEnd_9 : decode cX12_layEnd 9 = .ok (.sipush 7040, 3) := by decide +kernel
theorem dX12_layEnd_12 : decode cX12_layEnd 12 = .ok (.iaload, 1) := by decide +kernel
theorem dX12_layEnd_13 : decode cX12_layEnd 13 = .ok (.iastore, 1) := by decide +kernel
theorem dX12_layEnd_14 : decode cX12_layEnd 14 = .ok (.iconst 0, 1) := by decide +kernel
theorem dX12_layEnd_15 : decode cX12_layEnd 15 = .ok (.istore_n 1, 1) := by decide +kernel
theorem dX12_layEnd_16 : decode cX12_layEnd 16 = .ok (.iload_n 1, 1) := by decide +kernel
theorem dX12_layEnd_17 : decode cX12_layEnd 17 = .ok (.bipush 60, 2) := by decide +kernel
theorem dX12_layEnd_19 : decode cX12_layEnd 19 = .ok (.if_icmp .ge 45, 3) := by decide +kernel
theorem dX12_layEnd_22 : decode cX12_layEnd 22 = .ok (.aload_n 0, 1) := by decide +kernel
theorem dX12_layEnd_23 : decode cX12_layEnd 23 = .ok (.getfield 115, 3) := by decide +kernel
theorem dX12_layEnd_26 : decode cX12_layEnd 26 = .ok (.iconst 1, 1) := by decide +kernel
theorem dX12_layEnd_27 : decode cX12_layEnd 27 = .ok (.iload_n 1, 1) := by decide +kernel
theorem dX12_layEnd_28 : decode cX12_layEnd 28 = .ok (.iadd, 1) := by decide +kernel
theorem dX12_layEnd_29 : decode cX12_layEnd 29 = .ok (.iload_n 1, 1) := by decide +kernel
theorem dX12_layEnd_30 : decode cX12_layEnd 30 = .ok (.aload_n 0, 1) := by decide +kernel
theorem dX12_layEnd_31 : decode cX12_layEnd 31 = .ok (.getfield 346, 3) := by decide +kernel
theorem dX12_layEnd_34 : decode cX12_layEnd 34 = .ok (.if_icmp .ge 22, 3) := by decide +kernel
theorem dX12_layEnd_37 : decode cX12_layEnd 37 = .ok (.aload_n 0, 1) := by decide +kernel
theorem dX12_layEnd_38 : decode cX12_layEnd 38 = .ok (.getfield 7, 3) := by decide +kernel
theorem dX12_layEnd_41 : decode cX12_layEnd 41 = .ok (.bipush 61, 2) := by decide +kernel
theorem dX12_layEnd_43 : decode cX12_layEnd 43 = .ok (.aload_n 0, 1) := by decide +kernel
theorem dX12_layEnd_44 : decode cX12_layEnd 44 = .ok (.getfield 7, 3) := by decide +kernel
theorem dX12_layEnd_47 : decode cX12_layEnd 47 = .ok (.iconst 1, 1) := by decide +kernel
theorem dX12_layEnd_48 : decode cX12_layEnd 48 = .ok (.iload_n 1, 1) := by decide +kernel
theorem dX12_layEnd_49 : decode cX12_layEnd 49 = .ok (.iadd, 1) := by decide +kernel
theorem dX12_layEnd_50 : decode cX12_layEnd 50 = .ok (.iaload, 1) := by decide +kernel
theorem dX12_layEnd_51 : decode cX12_layEnd 51 = .ok (.iadd, 1) := by decide +kernel
theorem dX12_layEnd_52 : decode cX12_layEnd 52 = .ok (.iaload, 1) := by decide +kernel
theorem dX12_layEnd_53 : decode cX12_layEnd 53 = .ok (.goto 4, 3) := by decide +kernel
theorem dX12_layEnd_56 : decode cX12_layEnd 56 = .ok (.iconst 0, 1) := by decide +kernel
theorem dX12_layEnd_57 : decode cX12_layEnd 57 = .ok (.iastore, 1) := by decide +kernel
theorem dX12_layEnd_58 : decode cX12_layEnd 58 = .ok (.iinc 1 1, 3) := by decide +kernel
theorem dX12_layEnd_61 : decode cX12_layEnd 61 = .ok (.goto (-45), 3) := by decide +kernel
theorem dX12_layEnd_64 : decode cX12_layEnd 64 = .ok (.iconst 0, 1) := by decide +kernel
theorem dX12_layEnd_65 : decode cX12_layEnd 65 = .ok (.istore_n 1, 1) := by decide +kernel
theorem dX12_layEnd_66 : decode cX12_layEnd 66 = .ok (.iconst 0, 1) := by decide +kernel
theorem dX12_layEnd_67 : decode cX12_layEnd 67 = .ok (.istore_n 2, 1) := by decide +kernel
theorem dX12_layEnd_68 : decode cX12_layEnd 68 = .ok (.iload_n 2, 1) := by decide +kernel
theorem dX12_layEnd_69 : decode cX12_layEnd 69 = .ok (.aload_n 0, 1) := by decide +kernel
theorem dX12_layEnd_70 : decode cX12_layEnd 70 = .ok (.getfield 7, 3) := by decide +kernel
theorem dX12_layEnd_73 : decode cX12_layEnd 73 = .ok (.bipush 121, 2) := by decide +kernel
theorem dX12_layEnd_75 : decode cX12_layEnd 75 = .ok (.iaload, 1) := by decide +kernel
theorem dX12_layEnd_76 : decode cX12_layEnd 76 = .ok (.if_icmp .ge 153, 3) := by decide +kernel
theorem dX12_layEnd_79 : decode cX12_layEnd 79 = .ok (.aload_n 0, 1) := by decide +kernel
theorem dX12_layEnd_80 : decode cX12_layEnd 80 = .ok (.getfield 7, 3) := by decide +kernel
theorem dX12_layEnd_83 : decode cX12_layEnd 83 = .ok (.sipush 422, 3) := by decide +kernel
theorem dX12_layEnd_86 : decode cX12_layEnd 86 = .ok (.iload_n 2, 1) := by decide +kernel
theorem dX12_layEnd_87 : decode cX12_layEnd 87 = .ok (.iadd, 1) := by decide +kernel
theorem dX12_layEnd_88 : decode cX12_layEnd 88 = .ok (.iaload, 1) := by decide +kernel
theorem dX12_layEnd_89 : decode cX12_layEnd 89 = .ok (.iconst 1, 1) := by decide +kernel
theorem dX12_layEnd_90 : decode cX12_layEnd 90 = .ok (.if_icmp .ne 133, 3) := by decide +kernel
theorem dX12_layEnd_93 : decode cX12_layEnd 93 = .ok (.iconst 2, 1) := by decide +kernel
theorem dX12_layEnd_94 : decode cX12_layEnd 94 = .ok (.aload_n 0, 1) := by decide +kernel
theorem dX12_layEnd_95 : decode cX12_layEnd 95 = .ok (.getfield 7, 3) := by decide +kernel
theorem dX12_layEnd_98 : decode cX12_layEnd 98 = .ok (.bipush 122, 2) := by decide +kernel
theorem dX12_layEnd_100 : decode cX12_layEnd 100 = .ok (.iload_n 2, 1) := by decide +kernel
theorem dX12_layEnd_101 : decode cX12_layEnd 101 = .ok (.iadd, 1) := by decide +kernel
theorem dX12_layEnd_102 : decode cX12_layEnd 102 = .ok (.iaload, 1) := by decide +kernel
theorem dX12_layEnd_103 : decode cX12_layEnd 103 = .ok (.imul, 1) := by decide +kernel
theorem dX12_layEnd_104 : decode cX12_layEnd 104 = .ok (.aload_n 0, 1) := by decide +kernel
theorem dX12_layEnd_105 : decode cX12_layEnd 105 = .ok (.getfield 7, 3) := by decide +kernel
theorem dX12_layEnd_108 : decode cX12_layEnd 108 = .ok (.sipush 522, 3) := by decide +kernel
theorem dX12_layEnd_111 : decode cX12_layEnd 111 = .ok (.iload_n 2, 1) := by decide +kernel
theorem dX12_layEnd_112 : decode cX12_layEnd 112 = .ok (.iadd, 1) := by decide +kernel
theorem dX12_layEnd_113 : decode cX12_layEnd 113 = .ok (.iaload, 1) := by decide +kernel
theorem dX12_layEnd_114 : decode cX12_layEnd 114 = .ok (.iadd, 1) := by decide +kernel
theorem dX12_layEnd_115 : decode cX12_layEnd 115 = .ok (.istore_n 3, 1) := by decide +kernel
theorem dX12_layEnd_116 : decode cX12_layEnd 116 = .ok (.sipush 600, 3) := by decide +kernel
theorem dX12_layEnd_119 : decode cX12_layEnd 119 = .ok (.iload_n 3, 1) := by decide +kernel
theorem dX12_layEnd_120 : decode cX12_layEnd 120 = .ok (.imul, 1) := by decide +kernel
theorem dX12_layEnd_121 : decode cX12_layEnd 121 = .ok (.aload_n 0, 1) := by decide +kernel
theorem dX12_layEnd_122 : decode cX12_layEnd 122 = .ok (.aload_n 0, 1) := by decide +kernel
theorem dX12_layEnd_123 : decode cX12_layEnd 123 = .ok (.getfield 7, 3) := by decide +kernel
theorem dX12_layEnd_126 : decode cX12_layEnd 126 = .ok (.sipush 222, 3) := by decide +kernel
theorem dX12_layEnd_129 : decode cX12_layEnd 129 = .ok (.iload_n 2, 1) := by decide +kernel
theorem dX12_layEnd_130 : decode cX12_layEnd 130 = .ok (.iadd, 1) := by decide +kernel
theorem dX12_layEnd_131 : decode cX12_layEnd 131 = .ok (.iaload, 1) := by decide +kernel
theorem dX12_layEnd_132 : decode cX12_layEnd 132 = .ok (.invokevirtual 349, 3) := by decide +kernel
theorem dX12_layEnd_135 : decode cX12_layEnd 135 = .ok (.iadd, 1) := by decide +kernel
theorem dX12_layEnd_136 : decode cX12_layEnd 136 = .ok (.bipush 99, 2) := by decide +kernel
theorem dX12_layEnd_138 : decode cX12_layEnd 138 = .ok (.iadd, 1) := by decide +kernel
theorem dX12_layEnd_139 : decode cX12_layEnd 139 = .ok (.istore_n 3, 1) := by decide +kernel
theorem dX12_layEnd_140 : decode cX12_layEnd 140 = .ok (.sipush 600, 3) := by decide +kernel
theorem dX12_layEnd_143 : decode cX12_layEnd 143 = .ok (.iload_n 3, 1) := by decide +kernel
theorem dX12_layEnd_144 : decode cX12_layEnd 144 = .ok (.imul, 1) := by decide +kernel
theorem dX12_layEnd_145 : decode cX12_layEnd 145 = .ok (.aload_n 0, 1) := by decide +kernel
theorem dX12_layEnd_146 : decode cX12_layEnd 146 = .ok (.aload_n 0, 1) := by decide +kernel
theorem dX12_layEnd_147 : decode cX12_layEnd 147 = .ok (.getfield 7, 3) := by decide +kernel
theorem dX12_layEnd_150 : decode cX12_layEnd 150 = .ok (.sipush 322, 3) := by decide +kernel
theorem dX12_layEnd_153 : decode cX12_layEnd 153 = .ok (.iload_n 2, 1) := by decide +kernel
theorem dX12_layEnd_154 : decode cX12_layEnd 154 = .ok (.iadd, 1) := by decide +kernel
theorem dX12_layEnd_155 : decode cX12_layEnd 155 = .ok (.iaload, 1) := by decide +kernel
theorem dX12_layEnd_156 : decode cX12_layEnd 156 = .ok (.invokevirtual 349, 3) := by decide +kernel
theorem dX12_layEnd_159 : decode cX12_layEnd 159 = .ok (.iadd, 1) := by decide +kernel
theorem dX12_layEnd_160 : decode cX12_layEnd 160 = .ok (.bipush 99, 2) := by decide +kernel
theorem dX12_layEnd_162 : decode cX12_layEnd 162 = .ok (.iadd, 1) := by decide +kernel
theorem dX12_layEnd_163 : decode cX12_layEnd 163 = .ok (.istore_n 3, 1) := by decide +kernel
theorem dX12_layEnd_164 : decode cX12_layEnd 164 = .ok (.bipush 62, 2) := by decide +kernel
theorem dX12_layEnd_166 : decode cX12_layEnd 166 = .ok (.iload_n 1, 1) := by decide +kernel
theorem dX12_layEnd_167 : decode cX12_layEnd 167 = .ok (.iadd, 1) := by decide +kernel
theorem dX12_layEnd_168 : decode cX12_layEnd 168 = .ok (.istore 4, 2) := by decide +kernel
theorem dX12_layEnd_170 : decode cX12_layEnd 170 = .ok (.iload 4, 2) := by decide +kernel
theorem dX12_layEnd_172 : decode cX12_layEnd 172 = .ok (.bipush 62, 2) := by decide +kernel
theorem dX12_layEnd_174 : decode cX12_layEnd 174 = .ok (.if_icmp .le 38, 3) := by decide +kernel
theorem dX12_layEnd_177 : decode cX12_layEnd 177 = .ok (.aload_n 0, 1) := by decide +kernel
theorem dX12_layEnd_178 : decode cX12_layEnd 178 = .ok (.getfield 115, 3) := by decide +kernel
theorem dX12_layEnd_181 : decode cX12_layEnd 181 = .ok (.iload 4, 2) := by decide +kernel
theorem dX12_layEnd_183 : decode cX12_layEnd 183 = .ok (.iconst 1, 1) := by decide +kernel
theorem dX12_layEnd_184 : decode cX12_layEnd 184 = .ok (.isub, 1) := by decide +kernel
theorem dX12_layEnd_185 : decode cX12_layEnd 185 = .ok (.iaload, 1) := by decide +kernel
theorem dX12_layEnd_186 : decode cX12_layEnd 186 = .ok (.iload_n 3, 1) := by decide +kernel
theorem dX12_layEnd_187 : decode cX12_layEnd 187 = .ok (.if_icmp .le 25, 3) := by decide +kernel
theorem dX12_layEnd_190 : decode cX12_layEnd 190 = .ok (.aload_n 0, 1) := by decide +kernel
theorem dX12_layEnd_191 : decode cX12_layEnd 191 = .ok (.getfield 115, 3) := by decide +kernel
theorem dX12_layEnd_194 : decode cX12_layEnd 194 = .ok (.iload 4, 2) := by decide +kernel
theorem dX12_layEnd_196 : decode cX12_layEnd 196 = .ok (.aload_n 0, 1) := by decide +kernel
theorem dX12_layEnd_197 : decode cX12_layEnd 197 = .ok (.getfield 115, 3) := by decide +kernel
theorem dX12_layEnd_200 : decode cX12_layEnd 200 = .ok (.iload 4, 2) := by decide +kernel
theorem dX12_layEnd_202 : decode cX12_layEnd 202 = .ok (.iconst 1, 1) := by decide +kernel
theorem dX12_layEnd_203 : decode cX12_layEnd 203 = .ok (.isub, 1) := by decide +kernel
theorem dX12_layEnd_204 : decode cX12_layEnd 204 = .ok (.iaload, 1) := by decide +kernel
theorem dX12_layEnd_205 : decode cX12_layEnd 205 = .ok (.iastore, 1) := by decide +kernel
theorem dX12_layEnd_206 : decode cX12_layEnd 206 = .ok (.iinc 4 (-1), 3) := by decide +kernel
theorem dX12_layEnd_209 : decode cX12_layEnd 209 = .ok (.goto (-39), 3) := by decide +kernel
theorem dX12_layEnd_212 : decode cX12_layEnd 212 = .ok (.aload_n 0, 1) := by decide +kernel
theorem dX12_layEnd_213 : decode cX12_layEnd 213 = .ok (.getfield 115, 3) := by decide +kernel
theorem dX12_layEnd_216 : decode cX12_layEnd 216 = .ok (.iload 4, 2) := by decide +kernel
theorem dX12_layEnd_218 : decode cX12_layEnd 218 = .ok (.iload_n 3, 1) := by decide +kernel
theorem dX12_layEnd_219 : decode cX12_layEnd 219 = .ok (.iastore, 1) := by decide +kernel
theorem dX12_layEnd_220 : decode cX12_layEnd 220 = .ok (.iinc 1 1, 3) := by decide +kernel
theorem dX12_layEnd_223 : decode cX12_layEnd 223 = .ok (.iinc 2 1, 3) := by decide +kernel
theorem dX12_layEnd_226 : decode cX12_layEnd 226 = .ok (.goto (-158), 3) := by decide +kernel
theorem dX12_layEnd_229 : decode cX12_layEnd 229 = .ok (.aload_n 0, 1) := by decide +kernel
theorem dX12_layEnd_230 : decode cX12_layEnd 230 = .ok (.getfield 115, 3) := by decide +kernel
theorem dX12_layEnd_233 : decode cX12_layEnd 233 = .ok (.bipush 61, 2) := by decide +kernel
theorem dX12_layEnd_235 : decode cX12_layEnd 235 = .ok (.iload_n 1, 1) := by decide +kernel
theorem dX12_layEnd_236 : decode cX12_layEnd 236 = .ok (.iastore, 1) := by decide +kernel
theorem dX12_layEnd_237 : decode cX12_layEnd 237 = .ok (.return_, 1) := by decide +kernel
theorem dX12_isEnd_0 : decode cX12_isEnd 0 = .ok (.iconst 1, 1) := by decide +kernel
theorem dX12_isEnd_1 : decode cX12_isEnd 1 = .ok (.istore_n 2, 1) := by decide +kernel
theorem dX12_isEnd_2 : decode cX12_isEnd 2 = .ok (.iconst 0, 1) := by decide +kernel
theorem dX12_isEnd_3 : decode cX12_isEnd 3 = .ok (.istore_n 3, 1) := by decide +kernel
theorem dX12_isEnd_4 : decode cX12_isEnd 4 = .ok (.iload_n 3, 1) := by decide +kernel
theorem dX12_isEnd_5 : decode cX12_isEnd 5 = .ok (.bipush 62, 2) := by decide +kernel
theorem dX12_isEnd_7 : decode cX12_isEnd 7 = .ok (.aload_n 0, 1) := by decide +kernel
theorem dX12_isEnd_8 : decode cX12_isEnd 8 = .ok (.getfield 115, 3) := by decide +kernel
theorem dX12_isEnd_11 : decode cX12_isEnd 11 = .ok (.bipush 61, 2) := by decide +kernel
theorem dX12_isEnd_13 : decode cX12_isEnd 13 = .ok (.iaload, 1) := by decide +kernel
theorem dX12_isEnd_14 : decode cX12_isEnd 14 = .ok (.iadd, 1) := by decide +kernel
theorem dX12_isEnd_15 : decode cX12_isEnd 15 = .ok (.if_icmp .ge 40, 3) := by decide +kernel
theorem dX12_isEnd_18 : decode cX12_isEnd 18 = .ok (.iload_n 2, 1) := by decide +kernel
theorem dX12_isEnd_19 : decode cX12_isEnd 19 = .ok (.ifCond .eq 36, 3) := by decide +kernel
theorem dX12_isEnd_22 : decode cX12_isEnd 22 = .ok (.aload_n 0, 1) := by decide +kernel
theorem dX12_isEnd_23 : decode cX12_isEnd 23 = .ok (.getfield 109, 3) := by decide +kernel
theorem dX12_isEnd_26 : decode cX12_isEnd 26 = .ok (.sipush 170, 3) := by decide +kernel
theorem dX12_isEnd_29 : decode cX12_isEnd 29 = .ok (.iload_n 1, 1) := by decide +kernel
theorem dX12_isEnd_30 : decode cX12_isEnd 30 = .ok (.imul, 1) := by decide +kernel
theorem dX12_isEnd_31 : decode cX12_isEnd 31 = .ok (.iload_n 3, 1) := by decide +kernel
theorem dX12_isEnd_32 : decode cX12_isEnd 32 = .ok (.iadd, 1) := by decide +kernel
theorem dX12_isEnd_33 : decode cX12_isEnd 33 = .ok (.iaload, 1) := by decide +kernel
theorem dX12_isEnd_34 : decode cX12_isEnd 34 = .ok (.aload_n 0, 1) := by decide +kernel
theorem dX12_isEnd_35 : decode cX12_isEnd 35 = .ok (.getfield 115, 3) := by decide +kernel
theorem dX12_isEnd_38 : decode cX12_isEnd 38 = .ok (.iload_n 3, 1) := by decide +kernel
theorem dX12_isEnd_39 : decode cX12_isEnd 39 = .ok (.iaload, 1) := by decide +kernel
theorem dX12_isEnd_40 : decode cX12_isEnd 40 = .ok (.if_icmp .ne 7, 3) := by decide +kernel
theorem dX12_isEnd_43 : decode cX12_isEnd 43 = .ok (.iconst 1, 1) := by decide +kernel
theorem dX12_isEnd_44 : decode cX12_isEnd 44 = .ok (.goto 4, 3) := by decide +kernel
theorem dX12_isEnd_47 : decode cX12_isEnd 47 = .ok (.iconst 0, 1) := by decide +kernel
theorem dX12_isEnd_48 : decode cX12_isEnd 48 = .ok (.istore_n 2, 1) := by decide +kernel
theorem dX12_isEnd_49 : decode cX12_isEnd 49 = .ok (.iinc 3 1, 3) := by decide +kernel
theorem dX12_isEnd_52 : decode cX12_isEnd 52 = .ok (.goto (-48), 3) := by decide +kernel
theorem dX12_isEnd_55 : decode cX12_isEnd 55 = .ok (.iload_n 2, 1) := by decide +kernel
theorem dX12_isEnd_56 : decode cX12_isEnd 56 = .ok (.ireturn, 1) := by decide +kernel
theorem dX12_keepEnd_0 : decode cX12_keepEnd 0 = .ok (.iconst 0, 1) := by decide +kernel
theorem dX12_keepEnd_1 : decode cX12_keepEnd 1 = .ok (.istore_n 1, 1) := by decide +kernel
theorem dX12_keepEnd_2 : decode cX12_keepEnd 2 = .ok (.iload_n 1, 1) := by decide +kernel
theorem dX12_keepEnd_3 : decode cX12_keepEnd 3 = .ok (.aload_n 0, 1) := by decide +kernel
theorem dX12_keepEnd_4 : decode cX12_keepEnd 4 = .ok (.getfield 352, 3) := by decide +kernel
theorem dX12_keepEnd_7 : decode cX12_keepEnd 7 = .ok (.if_icmp .ge 18, 3) := by decide +kernel
theorem dX12_keepEnd_10 : decode cX12_keepEnd 10 = .ok (.aload_n 0, 1) := by decide +kernel
theorem dX12_keepEnd_11 : decode cX12_keepEnd 11 = .ok (.iload_n 1, 1) := by decide +kernel
theorem dX12_keepEnd_12 : decode cX12_keepEnd 12 = .ok (.invokevirtual 355, 3) := by decide +kernel
theorem dX12_keepEnd_15 : decode cX12_keepEnd 15 = .ok (.ifCond .eq 4, 3) := by decide +kernel
theorem dX12_keepEnd_18 : decode cX12_keepEnd 18 = .ok (.return_, 1) := by decide +kernel
theorem dX12_keepEnd_19 : decode cX12_keepEnd 19 = .ok (.iinc 1 1, 3) := by decide +kernel
theorem dX12_keepEnd_22 : decode cX12_keepEnd 22 = .ok (.goto (-20), 3) := by decide +kernel
theorem dX12_keepEnd_25 : decode cX12_keepEnd 25 = .ok (.iconst 0, 1) := by decide +kernel
theorem dX12_keepEnd_26 : decode cX12_keepEnd 26 = .ok (.istore_n 1, 1) := by decide +kernel
theorem dX12_keepEnd_27 : decode cX12_keepEnd 27 = .ok (.iload_n 1, 1) := by decide +kernel
theorem dX12_keepEnd_28 : decode cX12_keepEnd 28 = .ok (.bipush 62, 2) := by decide +kernel
theorem dX12_keepEnd_30 : decode cX12_keepEnd 30 = .ok (.aload_n 0, 1) := by decide +kernel
theorem dX12_keepEnd_31 : decode cX12_keepEnd 31 = .ok (.getfield 115, 3) := by decide +kernel
theorem dX12_keepEnd_34 : decode cX12_keepEnd 34 = .ok (.bipush 61, 2) := by decide +kernel
theorem dX12_keepEnd_36 : decode cX12_keepEnd 36 = .ok (.iaload, 1) := by decide +kernel
theorem dX12_keepEnd_37 : decode cX12_keepEnd 37 = .ok (.iadd, 1) := by decide +kernel
theorem dX12_keepEnd_38 : decode cX12_keepEnd 38 = .ok (.if_icmp .ge 30, 3) := by decide +kernel
theorem dX12_keepEnd_41 : decode cX12_keepEnd 41 = .ok (.aload_n 0, 1) := by decide +kernel
theorem dX12_keepEnd_42 : decode cX12_keepEnd 42 = .ok (.getfield 109, 3) := by decide +kernel
theorem dX12_keepEnd_45 : decode cX12_keepEnd 45 = .ok (.sipush 170, 3) := by decide +kernel
theorem dX12_keepEnd_48 : decode cX12_keepEnd 48 = .ok (.aload_n 0, 1) := by decide +kernel
theorem dX12_keepEnd_49 : decode cX12_keepEnd 49 = .ok (.getfield 352, 3) := by decide +kernel
theorem dX12_keepEnd_52 : decode cX12_keepEnd 52 = .ok (.imul, 1) := by decide +kernel
theorem dX12_keepEnd_53 : decode cX12_keepEnd 53 = .ok (.iload_n 1, 1) := by decide +kernel
theorem dX12_keepEnd_54 : decode cX12_keepEnd 54 = .ok (.iadd, 1) := by decide +kernel
theorem dX12_keepEnd_55 : decode cX12_keepEnd 55 = .ok (.aload_n 0, 1) := by decide +kernel
theorem dX12_keepEnd_56 : decode cX12_keepEnd 56 = .ok (.getfield 115, 3) := by decide +kernel
theorem dX12_keepEnd_59 : decode cX12_keepEnd 59 = .ok (.iload_n 1, 1) := by decide +kernel
theorem dX12_keepEnd_60 : decode cX12_keepEnd 60 = .ok (.iaload, 1) := by decide +kernel
theorem dX12_keepEnd_61 : decode cX12_keepEnd 61 = .ok (.iastore, 1) := by decide +kernel
theorem dX12_keepEnd_62 : decode cX12_keepEnd 62 = .ok (.iinc 1 1, 3) := by decide +kernel
theorem dX12_keepEnd_65 : decode cX12_keepEnd 65 = .ok (.goto (-38), 3) := by decide +kernel
theorem dX12_keepEnd_68 : decode cX12_keepEnd 68 = .ok (.aload_n 0, 1) := by decide +kernel
theorem dX12_keepEnd_69 : decode cX12_keepEnd 69 = .ok (.dup, 1) := by decide +kernel
theorem dX12_keepEnd_70 : decode cX12_keepEnd 70 = .ok (.getfield 352, 3) := by decide +kernel
theorem dX12_keepEnd_73 : decode cX12_keepEnd 73 = .ok (.iconst 1, 1) := by decide +kernel
theorem dX12_keepEnd_74 : decode cX12_keepEnd 74 = .ok (.iadd, 1) := by decide +kernel
theorem dX12_keepEnd_75 : decode cX12_keepEnd 75 = .ok (.putfield 352, 3) := by decide +kernel
theorem dX12_keepEnd_78 : decode cX12_keepEnd 78 = .ok (.return_, 1) := by decide +kernel
theorem dX12_restore_0 : decode cX12_restore 0 = .ok (.iconst 0, 1) := by decide +kernel
theorem dX12_restore_1 : decode cX12_restore 1 = .ok (.istore_n 1, 1) := by decide +kernel
theorem dX12_restore_2 : decode cX12_restore 2 = .ok (.iload_n 1, 1) := by decide +kernel
theorem dX12_restore_3 : decode cX12_restore 3 = .ok (.sipush 9863, 3) := by decide +kernel
theorem dX12_restore_6 : decode cX12_restore 6 = .ok (.if_icmp .ge 21, 3) := by decide +kernel
theorem dX12_restore_9 : decode cX12_restore 9 = .ok (.aload_n 0, 1) := by decide +kernel
theorem dX12_restore_10 : decode cX12_restore 10 = .ok (.getfield 7, 3) := by decide +kernel
theorem dX12_restore_13 : decode cX12_restore 13 = .ok (.iload_n 1, 1) := by decide +kernel
theorem dX12_restore_14 : decode cX12_restore 14 = .ok (.aload_n 0, 1) := by decide +kernel
theorem dX12_restore_15 : decode cX12_restore 15 = .ok (.getfield 13, 3) := by decide +kernel
theorem dX12_restore_18 : decode cX12_restore 18 = .ok (.iload_n 1, 1) := by decide +kernel
theorem dX12_restore_19 : decode cX12_restore 19 = .ok (.iaload, 1) := by decide +kernel
theorem dX12_restore_20 : decode cX12_restore 20 = .ok (.iastore, 1) := by decide +kernel
theorem dX12_restore_21 : decode cX12_restore 21 = .ok (.iinc 1 1, 3) := by decide +kernel
theorem dX12_restore_24 : decode cX12_restore 24 = .ok (.goto (-22), 3) := by decide +kernel
theorem dX12_restore_27 : decode cX12_restore 27 = .ok (.return_, 1) := by decide +kernel
theorem dX12_nextSchedule_0 : decode cX12_nextSchedule 0 = .ok (.aload_n 0, 1) := by decide +kernel
theorem dX12_nextSchedule_1 : decode cX12_nextSchedule 1 = .ok (.getfield 309, 3) := by decide +kernel
theorem dX12_nextSchedule_4 : decode cX12_nextSchedule 4 = .ok (.iconst 1, 1) := by decide +kernel
theorem dX12_nextSchedule_5 : decode cX12_nextSchedule 5 = .ok (.isub, 1) := by decide +kernel
theorem dX12_nextSchedule_6 : decode cX12_nextSchedule 6 = .ok (.istore_n 1, 1) := by decide +kernel
theorem dX12_nextSchedule_7 : decode cX12_nextSchedule 7 = .ok (.iload_n 1, 1) := by decide +kernel
theorem dX12_nextSchedule_8 : decode cX12_nextSchedule 8 = .ok (.ifCond .lt 33, 3) := by decide +kernel
theorem dX12_nextSchedule_11 : decode cX12_nextSchedule 11 = .ok (.aload_n 0, 1) := by decide +kernel
theorem dX12_nextSchedule_12 : decode cX12_nextSchedule 12 = .ok (.getfield 103, 3) := by decide +kernel
theorem dX12_nextSchedule_15 : decode cX12_nextSchedule 15 = .ok (.iload_n 1, 1) := by decide +kernel
theorem dX12_nextSchedule_16 : decode cX12_nextSchedule 16 = .ok (.iaload, 1) := by decide +kernel
theorem dX12_nextSchedule_17 : decode cX12_nextSchedule 17 = .ok (.iconst 1, 1) := by decide +kernel
theorem dX12_nextSchedule_18 : decode cX12_nextSchedule 18 = .ok (.iadd, 1) := by decide +kernel
theorem dX12_nextSchedule_19 : decode cX12_nextSchedule 19 = .ok (.aload_n 0, 1) := by decide +kernel
theorem dX12_nextSchedule_20 : decode cX12_nextSchedule 20 = .ok (.getfield 106, 3) := by decide +kernel
theorem dX12_nextSchedule_23 : decode cX12_nextSchedule 23 = .ok (.iload_n 1, 1) := by decide +kernel
theorem dX12_nextSchedule_24 : decode cX12_nextSchedule 24 = .ok (.iaload, 1) := by decide +kernel
theorem dX12_nextSchedule_25 : decode cX12_nextSchedule 25 = .ok (.if_icmp .lt 16, 3) := by decide +kernel
theorem dX12_nextSchedule_28 : decode cX12_nextSchedule 28 = .ok (.aload_n 0, 1) := by decide +kernel
theorem dX12_nextSchedule_29 : decode cX12_nextSchedule 29 = .ok (.getfield 103, 3) := by decide +kernel
theorem dX12_nextSchedule_32 : decode cX12_nextSchedule 32 = .ok (.iload_n 1, 1) := by decide +kernel
theorem dX12_nextSchedule_33 : decode cX12_nextSchedule 33 = .ok (.iconst 0, 1) := by decide +kernel
theorem dX12_nextSchedule_34 : decode cX12_nextSchedule 34 = .ok (.iastore, 1) := by decide +kernel
theorem dX12_nextSchedule_35 : decode cX12_nextSchedule 35 = .ok (.iinc 1 (-1), 3) := by decide +kernel
theorem dX12_nextSchedule_38 : decode cX12_nextSchedule 38 = .ok (.goto (-31), 3) := by decide +kernel
theorem dX12_nextSchedule_41 : decode cX12_nextSchedule 41 = .ok (.iload_n 1, 1) := by decide +kernel
theorem dX12_nextSchedule_42 : decode cX12_nextSchedule 42 = .ok (.ifCond .ge 5, 3) := by decide +kernel
theorem dX12_nextSchedule_45 : decode cX12_nextSchedule 45 = .ok (.iconst 0, 1) := by decide +kernel
theorem dX12_nextSchedule_46 : decode cX12_nextSchedule 46 = .ok (.ireturn, 1) := by decide +kernel
theorem dX12_nextSchedule_47 : decode cX12_nextSchedule 47 = .ok (.aload_n 0, 1) := by decide +kernel
theorem dX12_nextSchedule_48 : decode cX12_nextSchedule 48 = .ok (.getfield 103, 3) := by decide +kernel
theorem dX12_nextSchedule_51 : decode cX12_nextSchedule 51 = .ok (.iload_n 1, 1) := by decide +kernel
theorem dX12_nextSchedule_52 : decode cX12_nextSchedule 52 = .ok (.dup2, 1) := by decide +kernel
theorem dX12_nextSchedule_53 : decode cX12_nextSchedule 53 = .ok (.iaload, 1) := by decide +kernel
theorem dX12_nextSchedule_54 : decode cX12_nextSchedule 54 = .ok (.iconst 1, 1) := by decide +kernel
theorem dX12_nextSchedule_55 : decode cX12_nextSchedule 55 = .ok (.iadd, 1) := by decide +kernel
theorem dX12_nextSchedule_56 : decode cX12_nextSchedule 56 = .ok (.iastore, 1) := by decide +kernel
theorem dX12_nextSchedule_57 : decode cX12_nextSchedule 57 = .ok (.iconst 1, 1) := by decide +kernel
theorem dX12_nextSchedule_58 : decode cX12_nextSchedule 58 = .ok (.ireturn, 1) := by decide +kernel
theorem dX12_ends_0 : decode cX12_ends 0 = .ok (.aload_n 0, 1) := by decide +kernel
theorem dX12_ends_1 : decode cX12_ends 1 = .ok (.iconst 0, 1) := by decide +kernel
theorem dX12_ends_2 : decode cX12_ends 2 = .ok (.putfield 118, 3) := by decide +kernel
theorem dX12_ends_5 : decode cX12_ends 5 = .ok (.aload_n 0, 1) := by decide +kernel
theorem dX12_ends_6 : decode cX12_ends 6 = .ok (.getfield 7, 3) := by decide +kernel
theorem dX12_ends_9 : decode cX12_ends 9 = .ok (.sipush 7040, 3) := by decide +kernel
theorem dX12_ends_12 : decode cX12_ends 12 = .ok (.iaload, 1) := by decide +kernel
theorem dX12_ends_13 : decode cX12_ends 13 = .ok (.iconst 1, 1) := by decide +kernel
theorem dX12_ends_14 : decode cX12_ends 14 = .ok (.if_icmp .ne 9, 3) := by decide +kernel
theorem dX12_ends_17 : decode cX12_ends 17 = .ok (.aload_n 0, 1) := by decide +kernel
theorem dX12_ends_18 : decode cX12_ends 18 = .ok (.iconst 1, 1) := by decide +kernel
theorem dX12_ends_19 : decode cX12_ends 19 = .ok (.invokevirtual 137, 3) := by decide +kernel
theorem dX12_ends_22 : decode cX12_ends 22 = .ok (.ireturn, 1) := by decide +kernel
theorem dX12_ends_23 : decode cX12_ends 23 = .ok (.iconst 0, 1) := by decide +kernel
theorem dX12_ends_24 : decode cX12_ends 24 = .ok (.istore_n 1, 1) := by decide +kernel
theorem dX12_ends_25 : decode cX12_ends 25 = .ok (.iload_n 1, 1) := by decide +kernel
theorem dX12_ends_26 : decode cX12_ends 26 = .ok (.sipush 9863, 3) := by decide +kernel
theorem dX12_ends_29 : decode cX12_ends 29 = .ok (.if_icmp .ge 21, 3) := by decide +kernel
theorem dX12_ends_32 : decode cX12_ends 32 = .ok (.aload_n 0, 1) := by decide +kernel
theorem dX12_ends_33 : decode cX12_ends 33 = .ok (.getfield 13, 3) := by decide +kernel
theorem dX12_ends_36 : decode cX12_ends 36 = .ok (.iload_n 1, 1) := by decide +kernel
theorem dX12_ends_37 : decode cX12_ends 37 = .ok (.aload_n 0, 1) := by decide +kernel
theorem dX12_ends_38 : decode cX12_ends 38 = .ok (.getfield 7, 3) := by decide +kernel
theorem dX12_ends_41 : decode cX12_ends 41 = .ok (.iload_n 1, 1) := by decide +kernel
theorem dX12_ends_42 : decode cX12_ends 42 = .ok (.iaload, 1) := by decide +kernel
theorem dX12_ends_43 : decode cX12_ends 43 = .ok (.iastore, 1) := by decide +kernel
theorem dX12_ends_44 : decode cX12_ends 44 = .ok (.iinc 1 1, 3) := by decide +kernel
theorem dX12_ends_47 : decode cX12_ends 47 = .ok (.goto (-22), 3) := by decide +kernel
theorem dX12_ends_50 : decode cX12_ends 50 = .ok (.iconst 0, 1) := by decide +kernel
theorem dX12_ends_51 : decode cX12_ends 51 = .ok (.istore_n 1, 1) := by decide +kernel
theorem dX12_ends_52 : decode cX12_ends 52 = .ok (.iload_n 1, 1) := by decide +kernel
theorem dX12_ends_53 : decode cX12_ends 53 = .ok (.bipush 70, 2) := by decide +kernel
theorem dX12_ends_55 : decode cX12_ends 55 = .ok (.if_icmp .ge 16, 3) := by decide +kernel
theorem dX12_ends_58 : decode cX12_ends 58 = .ok (.aload_n 0, 1) := by decide +kernel
theorem dX12_ends_59 : decode cX12_ends 59 = .ok (.getfield 103, 3) := by decide +kernel
theorem dX12_ends_62 : decode cX12_ends 62 = .ok (.iload_n 1, 1) := by decide +kernel
theorem dX12_ends_63 : decode cX12_ends 63 = .ok (.iconst 0, 1) := by decide +kernel
theorem dX12_ends_64 : decode cX12_ends 64 = .ok (.iastore, 1) := by decide +kernel
theorem dX12_ends_65 : decode cX12_ends 65 = .ok (.iinc 1 1, 3) := by decide +kernel
theorem dX12_ends_68 : decode cX12_ends 68 = .ok (.goto (-16), 3) := by decide +kernel
theorem dX12_ends_71 : decode cX12_ends 71 = .ok (.aload_n 0, 1) := by decide +kernel
theorem dX12_ends_72 : decode cX12_ends 72 = .ok (.aload_n 0, 1) := by decide +kernel
theorem dX12_ends_73 : decode cX12_ends 73 = .ok (.getfield 7, 3) := by decide +kernel
theorem dX12_ends_76 : decode cX12_ends 76 = .ok (.iconst 0, 1) := by decide +kernel
theorem dX12_ends_77 : decode cX12_ends 77 = .ok (.iaload, 1) := by decide +kernel
theorem dX12_ends_78 : decode cX12_ends 78 = .ok (.putfield 346, 3) := by decide +kernel
theorem dX12_ends_81 : decode cX12_ends 81 = .ok (.aload_n 0, 1) := by decide +kernel
theorem dX12_ends_82 : decode cX12_ends 82 = .ok (.iconst 0, 1) := by decide +kernel
theorem dX12_ends_83 : decode cX12_ends 83 = .ok (.putfield 352, 3) := by decide +kernel
theorem dX12_ends_86 : decode cX12_ends 86 = .ok (.iconst 0, 1) := by decide +kernel
theorem dX12_ends_87 : decode cX12_ends 87 = .ok (.istore_n 1, 1) := by decide +kernel
theorem dX12_ends_88 : decode cX12_ends 88 = .ok (.iconst 1, 1) := by decide +kernel
theorem dX12_ends_89 : decode cX12_ends 89 = .ok (.istore_n 2, 1) := by decide +kernel
theorem dX12_ends_90 : decode cX12_ends 90 = .ok (.aload_n 0, 1) := by decide +kernel
theorem dX12_ends_91 : decode cX12_ends 91 = .ok (.iconst 1, 1) := by decide +kernel
theorem dX12_ends_92 : decode cX12_ends 92 = .ok (.putfield 306, 3) := by decide +kernel
theorem dX12_ends_95 : decode cX12_ends 95 = .ok (.iload_n 2, 1) := by decide +kernel
theorem dX12_ends_96 : decode cX12_ends 96 = .ok (.ifCond .eq 41, 3) := by decide +kernel
theorem dX12_ends_99 : decode cX12_ends 99 = .ok (.iinc 1 1, 3) := by decide +kernel
theorem dX12_ends_102 : decode cX12_ends 102 = .ok (.iload_n 1, 1) := by decide +kernel
theorem dX12_ends_103 : decode cX12_ends 103 = .ok (.bipush 8, 2) := by decide +kernel
theorem dX12_ends_105 : decode cX12_ends 105 = .ok (.if_icmp .gt 27, 3) := by decide +kernel
theorem dX12_ends_108 : decode cX12_ends 108 = .ok (.aload_n 0, 1) := by decide +kernel
theorem dX12_ends_109 : decode cX12_ends 109 = .ok (.invokevirtual 342, 3) := by decide +kernel
theorem dX12_ends_112 : decode cX12_ends 112 = .ok (.aload_n 0, 1) := by decide +kernel
theorem dX12_ends_113 : decode cX12_ends 113 = .ok (.invokevirtual 358, 3) := by decide +kernel
theorem dX12_ends_116 : decode cX12_ends 116 = .ok (.aload_n 0, 1) := by decide +kernel
theorem dX12_ends_117 : decode cX12_ends 117 = .ok (.invokevirtual 361, 3) := by decide +kernel
theorem dX12_ends_120 : decode cX12_ends 120 = .ok (.aload_n 0, 1) := by decide +kernel
theorem dX12_ends_121 : decode cX12_ends 121 = .ok (.invokevirtual 364, 3) := by decide +kernel
theorem dX12_ends_124 : decode cX12_ends 124 = .ok (.aload_n 0, 1) := by decide +kernel
theorem dX12_ends_125 : decode cX12_ends 125 = .ok (.invokevirtual 367, 3) := by decide +kernel
theorem dX12_ends_128 : decode cX12_ends 128 = .ok (.istore_n 2, 1) := by decide +kernel
theorem dX12_ends_129 : decode cX12_ends 129 = .ok (.goto (-34), 3) := by decide +kernel
theorem dX12_ends_132 : decode cX12_ends 132 = .ok (.iconst 0, 1) := by decide +kernel
theorem dX12_ends_133 : decode cX12_ends 133 = .ok (.istore_n 2, 1) := by decide +kernel
theorem dX12_ends_134 : decode cX12_ends 134 = .ok (.goto (-39), 3) := by decide +kernel
theorem dX12_ends_137 : decode cX12_ends 137 = .ok (.aload_n 0, 1) := by decide +kernel
theorem dX12_ends_138 : decode cX12_ends 138 = .ok (.iconst 0, 1) := by decide +kernel
theorem dX12_ends_139 : decode cX12_ends 139 = .ok (.putfield 306, 3) := by decide +kernel
theorem dX12_ends_142 : decode cX12_ends 142 = .ok (.iload_n 1, 1) := by decide +kernel
theorem dX12_ends_143 : decode cX12_ends 143 = .ok (.bipush 8, 2) := by decide +kernel
theorem dX12_ends_145 : decode cX12_ends 145 = .ok (.if_icmp .le 7, 3) := by decide +kernel
theorem dX12_ends_148 : decode cX12_ends 148 = .ok (.iconst (-1), 1) := by decide +kernel
theorem dX12_ends_149 : decode cX12_ends 149 = .ok (.goto 7, 3) := by decide +kernel
theorem dX12_ends_152 : decode cX12_ends 152 = .ok (.aload_n 0, 1) := by decide +kernel
theorem dX12_ends_153 : decode cX12_ends 153 = .ok (.getfield 352, 3) := by decide +kernel
theorem dX12_ends_156 : decode cX12_ends 156 = .ok (.ireturn, 1) := by decide +kernel
theorem dX12_clock_0 : decode cX12_clock 0 = .ok (.aload_n 0, 1) := by decide +kernel
theorem dX12_clock_1 : decode cX12_clock 1 = .ok (.iconst 0, 1) := by decide +kernel
theorem dX12_clock_2 : decode cX12_clock 2 = .ok (.putfield 118, 3) := by decide +kernel
theorem dX12_clock_5 : decode cX12_clock 5 = .ok (.aload_n 0, 1) := by decide +kernel
theorem dX12_clock_6 : decode cX12_clock 6 = .ok (.getfield 7, 3) := by decide +kernel
theorem dX12_clock_9 : decode cX12_clock 9 = .ok (.sipush 7039, 3) := by decide +kernel
theorem dX12_clock_12 : decode cX12_clock 12 = .ok (.iaload, 1) := by decide +kernel
theorem dX12_clock_13 : decode cX12_clock 13 = .ok (.ireturn, 1) := by decide +kernel
theorem dX12_hasFailed_0 : decode cX12_hasFailed 0 = .ok (.aload_n 0, 1) := by decide +kernel
theorem dX12_hasFailed_1 : decode cX12_hasFailed 1 = .ok (.iconst 0, 1) := by decide +kernel
theorem dX12_hasFailed_2 : decode cX12_hasFailed 2 = .ok (.putfield 118, 3) := by decide +kernel
theorem dX12_hasFailed_5 : decode cX12_hasFailed 5 = .ok (.aload_n 0, 1) := by decide +kernel
theorem dX12_hasFailed_6 : decode cX12_hasFailed 6 = .ok (.getfield 7, 3) := by decide +kernel
theorem dX12_hasFailed_9 : decode cX12_hasFailed 9 = .ok (.sipush 7040, 3) := by decide +kernel
theorem dX12_hasFailed_12 : decode cX12_hasFailed 12 = .ok (.iaload, 1) := by decide +kernel
theorem dX12_hasFailed_13 : decode cX12_hasFailed 13 = .ok (.iconst 1, 1) := by decide +kernel
theorem dX12_hasFailed_14 : decode cX12_hasFailed 14 = .ok (.if_icmp .ne 7, 3) := by decide +kernel
theorem dX12_hasFailed_17 : decode cX12_hasFailed 17 = .ok (.iconst 1, 1) := by decide +kernel
theorem dX12_hasFailed_18 : decode cX12_hasFailed 18 = .ok (.goto 4, 3) := by decide +kernel
theorem dX12_hasFailed_21 : decode cX12_hasFailed 21 = .ok (.iconst 0, 1) := by decide +kernel
theorem dX12_hasFailed_22 : decode cX12_hasFailed 22 = .ok (.ireturn, 1) := by decide +kernel
theorem dX12_variables_0 : decode cX12_variables 0 = .ok (.aload_n 0, 1) := by decide +kernel
theorem dX12_variables_1 : decode cX12_variables 1 = .ok (.iconst 0, 1) := by decide +kernel
theorem dX12_variables_2 : decode cX12_variables 2 = .ok (.putfield 118, 3) := by decide +kernel
theorem dX12_variables_5 : decode cX12_variables 5 = .ok (.aload_n 0, 1) := by decide +kernel
theorem dX12_variables_6 : decode cX12_variables 6 = .ok (.getfield 7, 3) := by decide +kernel
theorem dX12_variables_9 : decode cX12_variables 9 = .ok (.iconst 0, 1) := by decide +kernel
theorem dX12_variables_10 : decode cX12_variables 10 = .ok (.iaload, 1) := by decide +kernel
theorem dX12_variables_11 : decode cX12_variables 11 = .ok (.ireturn, 1) := by decide +kernel
theorem dX12_isVariable_0 : decode cX12_isVariable 0 = .ok (.iload_n 1, 1) := by decide +kernel
theorem dX12_isVariable_1 : decode cX12_isVariable 1 = .ok (.iconst 0, 1) := by decide +kernel
theorem dX12_isVariable_2 : decode cX12_isVariable 2 = .ok (.aload_n 0, 1) := by decide +kernel
theorem dX12_isVariable_3 : decode cX12_isVariable 3 = .ok (.getfield 7, 3) := by decide +kernel
theorem dX12_isVariable_6 : decode cX12_isVariable 6 = .ok (.iconst 0, 1) := by decide +kernel
theorem dX12_isVariable_7 : decode cX12_isVariable 7 = .ok (.iaload, 1) := by decide +kernel
theorem dX12_isVariable_8 : decode cX12_isVariable 8 = .ok (.iconst 1, 1) := by decide +kernel
theorem dX12_isVariable_9 : decode cX12_isVariable 9 = .ok (.isub, 1) := by decide +kernel
theorem dX12_isVariable_10 : decode cX12_isVariable 10 = .ok (.invokestatic 122, 3) := by decide +kernel
theorem dX12_isVariable_13 : decode cX12_isVariable 13 = .ok (.ireturn, 1) := by decide +kernel
theorem dX12_value_0 : decode cX12_value 0 = .ok (.aload_n 0, 1) := by decide +kernel
theorem dX12_value_1 : decode cX12_value 1 = .ok (.iconst 0, 1) := by decide +kernel
theorem dX12_value_2 : decode cX12_value 2 = .ok (.putfield 118, 3) := by decide +kernel
theorem dX12_value_5 : decode cX12_value 5 = .ok (.aload_n 0, 1) := by decide +kernel
theorem dX12_value_6 : decode cX12_value 6 = .ok (.iload_n 1, 1) := by decide +kernel
theorem dX12_value_7 : decode cX12_value 7 = .ok (.invokevirtual 371, 3) := by decide +kernel
theorem dX12_value_10 : decode cX12_value 10 = .ok (.ifCond .ne 9, 3) := by decide +kernel
theorem dX12_value_13 : decode cX12_value 13 = .ok (.aload_n 0, 1) := by decide +kernel
theorem dX12_value_14 : decode cX12_value 14 = .ok (.iconst 1, 1) := by decide +kernel
theorem dX12_value_15 : decode cX12_value 15 = .ok (.invokevirtual 137, 3) := by decide +kernel
theorem dX12_value_18 : decode cX12_value 18 = .ok (.ireturn, 1) := by decide +kernel
theorem dX12_value_19 : decode cX12_value 19 = .ok (.aload_n 0, 1) := by decide +kernel
theorem dX12_value_20 : decode cX12_value 20 = .ok (.sipush 400, 3) := by decide +kernel
theorem dX12_value_23 : decode cX12_value 23 = .ok (.iload_n 1, 1) := by decide +kernel
theorem dX12_value_24 : decode cX12_value 24 = .ok (.iadd, 1) := by decide +kernel
theorem dX12_value_25 : decode cX12_value 25 = .ok (.invokevirtual 145, 3) := by decide +kernel
theorem dX12_value_28 : decode cX12_value 28 = .ok (.ireturn, 1) := by decide +kernel
theorem dX12_areOne_0 : decode cX12_areOne 0 = .ok (.aload_n 0, 1) := by decide +kernel
theorem dX12_areOne_1 : decode cX12_areOne 1 = .ok (.iconst 0, 1) := by decide +kernel
theorem dX12_areOne_2 : decode cX12_areOne 2 = .ok (.putfield 118, 3) := by decide +kernel
theorem dX12_areOne_5 : decode cX12_areOne 5 = .ok (.aload_n 0, 1) := by decide +kernel
theorem dX12_areOne_6 : decode cX12_areOne 6 = .ok (.iload_n 1, 1) := by decide +kernel
theorem dX12_areOne_7 : decode cX12_areOne 7 = .ok (.invokevirtual 371, 3) := by decide +kernel
theorem dX12_areOne_10 : decode cX12_areOne 10 = .ok (.ifCond .eq 11, 3) := by decide +kernel
theorem dX12_areOne_13 : decode cX12_areOne 13 = .ok (.aload_n 0, 1) := by decide +kernel
theorem dX12_areOne_14 : decode cX12_areOne 14 = .ok (.iload_n 2, 1) := by decide +kernel
theorem dX12_areOne_15 : decode cX12_areOne 15 = .ok (.invokevirtual 371, 3) := by decide +kernel
theorem dX12_areOne_18 : decode cX12_areOne 18 = .ok (.ifCond .ne 10, 3) := by decide +kernel
theorem dX12_areOne_21 : decode cX12_areOne 21 = .ok (.aload_n 0, 1) := by decide +kernel
theorem dX12_areOne_22 : decode cX12_areOne 22 = .ok (.iconst 1, 1) := by decide +kernel
theorem dX12_areOne_23 : decode cX12_areOne 23 = .ok (.putfield 118, 3) := by decide +kernel
theorem dX12_areOne_26 : decode cX12_areOne 26 = .ok (.iconst 0, 1) := by decide +kernel
theorem dX12_areOne_27 : decode cX12_areOne 27 = .ok (.ireturn, 1) := by decide +kernel
theorem dX12_areOne_28 : decode cX12_areOne 28 = .ok (.aload_n 0, 1) := by decide +kernel
theorem dX12_areOne_29 : decode cX12_areOne 29 = .ok (.getfield 7, 3) := by decide +kernel
theorem dX12_areOne_32 : decode cX12_areOne 32 = .ok (.iconst 1, 1) := by decide +kernel
theorem dX12_areOne_33 : decode cX12_areOne 33 = .ok (.iload_n 1, 1) := by decide +kernel
theorem dX12_areOne_34 : decode cX12_areOne 34 = .ok (.iadd, 1) := by decide +kernel
theorem dX12_areOne_35 : decode cX12_areOne 35 = .ok (.iaload, 1) := by decide +kernel
theorem dX12_areOne_36 : decode cX12_areOne 36 = .ok (.aload_n 0, 1) := by decide +kernel
theorem dX12_areOne_37 : decode cX12_areOne 37 = .ok (.getfield 7, 3) := by decide +kernel
theorem dX12_areOne_40 : decode cX12_areOne 40 = .ok (.iconst 1, 1) := by decide +kernel
theorem dX12_areOne_41 : decode cX12_areOne 41 = .ok (.iload_n 2, 1) := by decide +kernel
theorem dX12_areOne_42 : decode cX12_areOne 42 = .ok (.iadd, 1) := by decide +kernel
theorem dX12_areOne_43 : decode cX12_areOne 43 = .ok (.iaload, 1) := by decide +kernel
theorem dX12_areOne_44 : decode cX12_areOne 44 = .ok (.if_icmp .ne 7, 3) := by decide +kernel
theorem dX12_areOne_47 : decode cX12_areOne 47 = .ok (.iconst 1, 1) := by decide +kernel
theorem dX12_areOne_48 : decode cX12_areOne 48 = .ok (.goto 4, 3) := by decide +kernel
theorem dX12_areOne_51 : decode cX12_areOne 51 = .ok (.iconst 0, 1) := by decide +kernel
theorem dX12_areOne_52 : decode cX12_areOne 52 = .ok (.ireturn, 1) := by decide +kernel
theorem dX12_tokens_0 : decode cX12_tokens 0 = .ok (.aload_n 0, 1) := by decide +kernel
theorem dX12_tokens_1 : decode cX12_tokens 1 = .ok (.iconst 0, 1) := by decide +kernel
theorem dX12_tokens_2 : decode cX12_tokens 2 = .ok (.putfield 118, 3) := by decide +kernel
theorem dX12_tokens_5 : decode cX12_tokens 5 = .ok (.aload_n 0, 1) := by decide +kernel
theorem dX12_tokens_6 : decode cX12_tokens 6 = .ok (.getfield 7, 3) := by decide +kernel
theorem dX12_tokens_9 : decode cX12_tokens 9 = .ok (.bipush 121, 2) := by decide +kernel
theorem dX12_tokens_11 : decode cX12_tokens 11 = .ok (.iaload, 1) := by decide +kernel
theorem dX12_tokens_12 : decode cX12_tokens 12 = .ok (.ireturn, 1) := by decide +kernel
theorem dX12_isToken_0 : decode cX12_isToken 0 = .ok (.iload_n 1, 1) := by decide +kernel
theorem dX12_isToken_1 : decode cX12_isToken 1 = .ok (.iconst 0, 1) := by decide +kernel
theorem dX12_isToken_2 : decode cX12_isToken 2 = .ok (.aload_n 0, 1) := by decide +kernel
theorem dX12_isToken_3 : decode cX12_isToken 3 = .ok (.getfield 7, 3) := by decide +kernel
theorem dX12_isToken_6 : decode cX12_isToken 6 = .ok (.bipush 121, 2) := by decide +kernel
theorem dX12_isToken_8 : decode cX12_isToken 8 = .ok (.iaload, 1) := by decide +kernel
theorem dX12_isToken_9 : decode cX12_isToken 9 = .ok (.iconst 1, 1) := by decide +kernel
theorem dX12_isToken_10 : decode cX12_isToken 10 = .ok (.isub, 1) := by decide +kernel
theorem dX12_isToken_11 : decode cX12_isToken 11 = .ok (.invokestatic 122, 3) := by decide +kernel
theorem dX12_isToken_14 : decode cX12_isToken 14 = .ok (.ireturn, 1) := by decide +kernel
theorem dX12_part_0 : decode cX12_part 0 = .ok (.aload_n 0, 1) := by decide +kernel
theorem dX12_part_1 : decode cX12_part 1 = .ok (.iconst 0, 1) := by decide +kernel
theorem dX12_part_2 : decode cX12_part 2 = .ok (.putfield 118, 3) := by decide +kernel
theorem dX12_part_5 : decode cX12_part 5 = .ok (.aload_n 0, 1) := by decide +kernel
theorem dX12_part_6 : decode cX12_part 6 = .ok (.iload_n 1, 1) := by decide +kernel
theorem dX12_part_7 : decode cX12_part 7 = .ok (.invokevirtual 374, 3) := by decide +kernel
theorem dX12_part_10 : decode cX12_part 10 = .ok (.ifCond .ne 9, 3) := by decide +kernel
theorem dX12_part_13 : decode cX12_part 13 = .ok (.aload_n 0, 1) := by decide +kernel
theorem dX12_part_14 : decode cX12_part 14 = .ok (.iconst 1, 1) := by decide +kernel
theorem dX12_part_15 : decode cX12_part 15 = .ok (.invokevirtual 137, 3) := by decide +kernel
theorem dX12_part_18 : decode cX12_part 18 = .ok (.ireturn, 1) := by decide +kernel
theorem dX12_part_19 : decode cX12_part 19 = .ok (.iload_n 2, 1) := by decide +kernel
theorem dX12_part_20 : decode cX12_part 20 = .ok (.iconst 0, 1) := by decide +kernel
theorem dX12_part_21 : decode cX12_part 21 = .ok (.iconst 4, 1) := by decide +kernel
theorem dX12_part_22 : decode cX12_part 22 = .ok (.invokestatic 122, 3) := by decide +kernel
theorem dX12_part_25 : decode cX12_part 25 = .ok (.ifCond .ne 9, 3) := by decide +kernel
theorem dX12_part_28 : decode cX12_part 28 = .ok (.aload_n 0, 1) := by decide +kernel
theorem dX12_part_29 : decode cX12_part 29 = .ok (.iconst 2, 1) := by decide +kernel
theorem dX12_part_30 : decode cX12_part 30 = .ok (.invokevirtual 137, 3) := by decide +kernel
theorem dX12_part_33 : decode cX12_part 33 = .ok (.ireturn, 1) := by decide +kernel
theorem dX12_part_34 : decode cX12_part 34 = .ok (.iload_n 2, 1) := by decide +kernel
theorem dX12_part_35 : decode cX12_part 35 = .ok (.ifCond .ne 13, 3) := by decide +kernel
theorem dX12_part_38 : decode cX12_part 38 = .ok (.aload_n 0, 1) := by decide +kernel
theorem dX12_part_39 : decode cX12_part 39 = .ok (.getfield 7, 3) := by decide +kernel
theorem dX12_part_42 : decode cX12_part 42 = .ok (.bipush 122, 2) := by decide +kernel
theorem dX12_part_44 : decode cX12_part 44 = .ok (.iload_n 1, 1) := by decide +kernel
theorem dX12_part_45 : decode cX12_part 45 = .ok (.iadd, 1) := by decide +kernel
theorem dX12_part_46 : decode cX12_part 46 = .ok (.iaload, 1) := by decide +kernel
theorem dX12_part_47 : decode cX12_part 47 = .ok (.ireturn, 1) := by decide +kernel
theorem dX12_part_48 : decode cX12_part 48 = .ok (.iload_n 2, 1) := by decide +kernel
theorem dX12_part_49 : decode cX12_part 49 = .ok (.iconst 3, 1) := by decide +kernel
theorem dX12_part_50 : decode cX12_part 50 = .ok (.if_icmp .ge 36, 3) := by decide +kernel
theorem dX12_part_53 : decode cX12_part 53 = .ok (.aload_n 0, 1) := by decide +kernel
theorem dX12_part_54 : decode cX12_part 54 = .ok (.iload_n 2, 1) := by decide +kernel
theorem dX12_part_55 : decode cX12_part 55 = .ok (.iconst 1, 1) := by decide +kernel
theorem dX12_part_56 : decode cX12_part 56 = .ok (.if_icmp .ne 16, 3) := by decide +kernel
theorem dX12_part_59 : decode cX12_part 59 = .ok (.aload_n 0, 1) := by decide +kernel
theorem dX12_part_60 : decode cX12_part 60 = .ok (.getfield 7, 3) := by decide +kernel
theorem dX12_part_63 : decode cX12_part 63 = .ok (.sipush 222, 3) := by decide +kernel
theorem dX12_part_66 : decode cX12_part 66 = .ok (.iload_n 1, 1) := by decide +kernel
theorem dX12_part_67 : decode cX12_part 67 = .ok (.iadd, 1) := by decide +kernel
theorem dX12_part_68 : decode cX12_part 68 = .ok (.iaload, 1) := by decide +kernel
theorem dX12_part_69 : decode cX12_part 69 = .ok (.goto 13, 3) := by decide +kernel
theorem dX12_part_72 : decode cX12_part 72 = .ok (.aload_n 0, 1) := by decide +kernel
theorem dX12_part_73 : decode cX12_part 73 = .ok (.getfield 7, 3) := by decide +kernel
theorem dX12_part_76 : decode cX12_part 76 = .ok (.sipush 322, 3) := by decide +kernel
theorem dX12_part_79 : decode cX12_part 79 = .ok (.iload_n 1, 1) := by decide +kernel
theorem dX12_part_80 : decode cX12_part 80 = .ok (.iadd, 1) := by decide +kernel
theorem dX12_part_81 : decode cX12_part 81 = .ok (.iaload, 1) := by decide +kernel
theorem dX12_part_82 : decode cX12_part 82 = .ok (.invokevirtual 349, 3) := by decide +kernel
theorem dX12_part_85 : decode cX12_part 85 = .ok (.ireturn, 1) := by decide +kernel
theorem dX12_part_86 : decode cX12_part 86 = .ok (.iload_n 2, 1) := by decide +kernel
theorem dX12_part_87 : decode cX12_part 87 = .ok (.iconst 3, 1) := by decide +kernel
theorem dX12_part_88 : decode cX12_part 88 = .ok (.if_icmp .ne 16, 3) := by decide +kernel
theorem dX12_part_91 : decode cX12_part 91 = .ok (.aload_n 0, 1) := by decide +kernel
theorem dX12_part_92 : decode cX12_part 92 = .ok (.getfield 7, 3) := by decide +kernel
theorem dX12_part_95 : decode cX12_part 95 = .ok (.sipush 422, 3) := by decide +kernel
theorem dX12_part_98 : decode cX12_part 98 = .ok (.iload_n 1, 1) := by decide +kernel
theorem dX12_part_99 : decode cX12_part 99 = .ok (.iadd, 1) := by decide +kernel
theorem dX12_part_100 : decode cX12_part 100 = .ok (.iaload, 1) := by decide +kernel
theorem dX12_part_101 : decode cX12_part 101 = .ok (.goto 13, 3) := by decide +kernel
theorem dX12_part_104 : decode cX12_part 104 = .ok (.aload_n 0, 1) := by decide +kernel
theorem dX12_part_105 : decode cX12_part 105 = .ok (.getfield 7, 3) := by decide +kernel
theorem dX12_part_108 : decode cX12_part 108 = .ok (.sipush 522, 3) := by decide +kernel
theorem dX12_part_111 : decode cX12_part 111 = .ok (.iload_n 1, 1) := by decide +kernel
theorem dX12_part_112 : decode cX12_part 112 = .ok (.iadd, 1) := by decide +kernel
theorem dX12_part_113 : decode cX12_part 113 = .ok (.iaload, 1) := by decide +kernel
theorem dX12_part_114 : decode cX12_part 114 = .ok (.ireturn, 1) := by decide +kernel
theorem dX12_isMadeBy_0 : decode cX12_isMadeBy 0 = .ok (.aload_n 0, 1) := by decide +kernel
theorem dX12_isMadeBy_1 : decode cX12_isMadeBy 1 = .ok (.iconst 0, 1) := by decide +kernel
theorem dX12_isMadeBy_2 : decode cX12_isMadeBy 2 = .ok (.putfield 118, 3) := by decide +kernel
theorem dX12_isMadeBy_5 : decode cX12_isMadeBy 5 = .ok (.aload_n 0, 1) := by decide +kernel
theorem dX12_isMadeBy_6 : decode cX12_isMadeBy 6 = .ok (.iload_n 1, 1) := by decide +kernel
theorem dX12_isMadeBy_7 : decode cX12_isMadeBy 7 = .ok (.invokevirtual 374, 3) := by decide +kernel
theorem dX12_isMadeBy_10 : decode cX12_isMadeBy 10 = .ok (.ifCond .eq 11, 3) := by decide +kernel
theorem dX12_isMadeBy_13 : decode cX12_isMadeBy 13 = .ok (.aload_n 0, 1) := by decide +kernel
theorem dX12_isMadeBy_14 : decode cX12_isMadeBy 14 = .ok (.iload_n 2, 1) := by decide +kernel
theorem dX12_isMadeBy_15 : decode cX12_isMadeBy 15 = .ok (.invokevirtual 374, 3) := by decide +kernel
theorem dX12_isMadeBy_18 : decode cX12_isMadeBy 18 = .ok (.ifCond .ne 10, 3) := by decide +kernel
theorem dX12_isMadeBy_21 : decode cX12_isMadeBy 21 = .ok (.aload_n 0, 1) := by decide +kernel
theorem dX12_isMadeBy_22 : decode cX12_isMadeBy 22 = .ok (.iconst 1, 1) := by decide +kernel
theorem dX12_isMadeBy_23 : decode cX12_isMadeBy 23 = .ok (.putfield 118, 3) := by decide +kernel
theorem dX12_isMadeBy_26 : decode cX12_isMadeBy 26 = .ok (.iconst 0, 1) := by decide +kernel
theorem dX12_isMadeBy_27 : decode cX12_isMadeBy 27 = .ok (.ireturn, 1) := by decide +kernel
theorem dX12_isMadeBy_28 : decode cX12_isMadeBy 28 = .ok (.aload_n 0, 1) := by decide +kernel
theorem dX12_isMadeBy_29 : decode cX12_isMadeBy 29 = .ok (.getfield 7, 3) := by decide +kernel
theorem dX12_isMadeBy_32 : decode cX12_isMadeBy 32 = .ok (.sipush 622, 3) := by decide +kernel
theorem dX12_isMadeBy_35 : decode cX12_isMadeBy 35 = .ok (.iconst 4, 1) := by decide +kernel
theorem dX12_isMadeBy_36 : decode cX12_isMadeBy 36 = .ok (.iload_n 1, 1) := by decide +kernel
theorem dX12_isMadeBy_37 : decode cX12_isMadeBy 37 = .ok (.imul, 1) := by decide +kernel
theorem dX12_isMadeBy_38 : decode cX12_isMadeBy 38 = .ok (.iadd, 1) := by decide +kernel
theorem dX12_isMadeBy_39 : decode cX12_isMadeBy 39 = .ok (.iload_n 2, 1) := by decide +kernel
theorem dX12_isMadeBy_40 : decode cX12_isMadeBy 40 = .ok (.bipush 32, 2) := by decide +kernel
theorem dX12_isMadeBy_42 : decode cX12_isMadeBy 42 = .ok (.idiv, 1) := by decide +kernel
theorem dX12_isMadeBy_43 : decode cX12_isMadeBy 43 = .ok (.iadd, 1) := by decide +kernel
theorem dX12_isMadeBy_44 : decode cX12_isMadeBy 44 = .ok (.iaload, 1) := by decide +kernel
theorem dX12_isMadeBy_45 : decode cX12_isMadeBy 45 = .ok (.iload_n 2, 1) := by decide +kernel
theorem dX12_isMadeBy_46 : decode cX12_isMadeBy 46 = .ok (.bipush 32, 2) := by decide +kernel
theorem dX12_isMadeBy_48 : decode cX12_isMadeBy 48 = .ok (.irem, 1) := by decide +kernel
theorem dX12_isMadeBy_49 : decode cX12_isMadeBy 49 = .ok (.ishr, 1) := by decide +kernel
theorem dX12_isMadeBy_50 : decode cX12_isMadeBy 50 = .ok (.iconst 1, 1) := by decide +kernel
theorem dX12_isMadeBy_51 : decode cX12_isMadeBy 51 = .ok (.iand, 1) := by decide +kernel
theorem dX12_isMadeBy_52 : decode cX12_isMadeBy 52 = .ok (.iconst 1, 1) := by decide +kernel
theorem dX12_isMadeBy_53 : decode cX12_isMadeBy 53 = .ok (.if_icmp .ne 7, 3) := by decide +kernel
theorem dX12_isMadeBy_56 : decode cX12_isMadeBy 56 = .ok (.iconst 1, 1) := by decide +kernel
theorem dX12_isMadeBy_57 : decode cX12_isMadeBy 57 = .ok (.goto 4, 3) := by decide +kernel
theorem dX12_isMadeBy_60 : decode cX12_isMadeBy 60 = .ok (.iconst 0, 1) := by decide +kernel
theorem dX12_isMadeBy_61 : decode cX12_isMadeBy 61 = .ok (.ireturn, 1) := by decide +kernel
theorem dX12_standing_0 : decode cX12_standing 0 = .ok (.aload_n 0, 1) := by decide +kernel
theorem dX12_standing_1 : decode cX12_standing 1 = .ok (.iconst 0, 1) := by decide +kernel
theorem dX12_standing_2 : decode cX12_standing 2 = .ok (.putfield 118, 3) := by decide +kernel
theorem dX12_standing_5 : decode cX12_standing 5 = .ok (.iconst 0, 1) := by decide +kernel
theorem dX12_standing_6 : decode cX12_standing 6 = .ok (.istore_n 1, 1) := by decide +kernel
theorem dX12_standing_7 : decode cX12_standing 7 = .ok (.iconst 0, 1) := by decide +kernel
theorem dX12_standing_8 : decode cX12_standing 8 = .ok (.istore_n 2, 1) := by decide +kernel
theorem dX12_standing_9 : decode cX12_standing 9 = .ok (.iload_n 2, 1) := by decide +kernel
theorem dX12_standing_10 : decode cX12_standing 10 = .ok (.aload_n 0, 1) := by decide +kernel
theorem dX12_standing_11 : decode cX12_standing 11 = .ok (.getfield 7, 3) := by decide +kernel
theorem dX12_standing_14 : decode cX12_standing 14 = .ok (.bipush 121, 2) := by decide +kernel
theorem dX12_standing_16 : decode cX12_standing 16 = .ok (.iaload, 1) := by decide +kernel
theorem dX12_standing_17 : decode cX12_standing 17 = .ok (.if_icmp .ge 22, 3) := by decide +kernel
theorem dX12_standing_20 : decode cX12_standing 20 = .ok (.iload_n 1, 1) := by decide +kernel
theorem dX12_standing_21 : decode cX12_standing 21 = .ok (.aload_n 0, 1) := by decide +kernel
theorem dX12_standing_22 : decode cX12_standing 22 = .ok (.getfield 7, 3) := by decide +kernel
theorem dX12_standing_25 : decode cX12_standing 25 = .ok (.sipush 422, 3) := by decide +kernel
theorem dX12_standing_28 : decode cX12_standing 28 = .ok (.iload_n 2, 1) := by decide +kernel
theorem dX12_standing_29 : decode cX12_standing 29 = .ok (.iadd, 1) := by decide +kernel
theorem dX12_standing_30 : decode cX12_standing 30 = .ok (.iaload, 1) := by decide +kernel
theorem dX12_standing_31 : decode cX12_standing 31 = .ok (.iadd, 1) := by decide +kernel
theorem dX12_standing_32 : decode cX12_standing 32 = .ok (.istore_n 1, 1) := by decide +kernel
theorem dX12_standing_33 : decode cX12_standing 33 = .ok (.iinc 2 1, 3) := by decide +kernel
theorem dX12_standing_36 : decode cX12_standing 36 = .ok (.goto (-27), 3) := by decide +kernel
theorem dX12_standing_39 : decode cX12_standing 39 = .ok (.iload_n 1, 1) := by decide +kernel
theorem dX12_standing_40 : decode cX12_standing 40 = .ok (.ireturn, 1) := by decide +kernel
theorem dX12_standingAnew_0 : decode cX12_standingAnew 0 = .ok (.aload_n 0, 1) := by decide +kernel
theorem dX12_standingAnew_1 : decode cX12_standingAnew 1 = .ok (.invokevirtual 377, 3) := by decide +kernel
theorem dX12_standingAnew_4 : decode cX12_standingAnew 4 = .ok (.ireturn, 1) := by decide +kernel
theorem dX12_waiting_0 : decode cX12_waiting 0 = .ok (.aload_n 0, 1) := by decide +kernel
theorem dX12_waiting_1 : decode cX12_waiting 1 = .ok (.iconst 0, 1) := by decide +kernel
theorem dX12_waiting_2 : decode cX12_waiting 2 = .ok (.putfield 118, 3) := by decide +kernel
theorem dX12_waiting_5 : decode cX12_waiting 5 = .ok (.aload_n 0, 1) := by decide +kernel
theorem dX12_waiting_6 : decode cX12_waiting 6 = .ok (.getfield 7, 3) := by decide +kernel
theorem dX12_waiting_9 : decode cX12_waiting 9 = .ok (.sipush 7041, 3) := by decide +kernel
theorem dX12_waiting_12 : decode cX12_waiting 12 = .ok (.iaload, 1) := by decide +kernel
theorem dX12_waiting_13 : decode cX12_waiting 13 = .ok (.ireturn, 1) := by decide +kernel
theorem dX12_fired_0 : decode cX12_fired 0 = .ok (.aload_n 0, 1) := by decide +kernel
theorem dX12_fired_1 : decode cX12_fired 1 = .ok (.iconst 0, 1) := by decide +kernel
theorem dX12_fired_2 : decode cX12_fired 2 = .ok (.putfield 118, 3) := by decide +kernel
theorem dX12_fired_5 : decode cX12_fired 5 = .ok (.iload_n 1, 1) := by decide +kernel
theorem dX12_fired_6 : decode cX12_fired 6 = .ok (.iconst 0, 1) := by decide +kernel
theorem dX12_fired_7 : decode cX12_fired 7 = .ok (.aload_n 0, 1) := by decide +kernel
theorem dX12_fired_8 : decode cX12_fired 8 = .ok (.getfield 187, 3) := by decide +kernel
theorem dX12_fired_11 : decode cX12_fired 11 = .ok (.iconst 1, 1) := by decide +kernel
theorem dX12_fired_12 : decode cX12_fired 12 = .ok (.isub, 1) := by decide +kernel
theorem dX12_fired_13 : decode cX12_fired 13 = .ok (.invokestatic 122, 3) := by decide +kernel
theorem dX12_fired_16 : decode cX12_fired 16 = .ok (.ifCond .ne 9, 3) := by decide +kernel
theorem dX12_fired_19 : decode cX12_fired 19 = .ok (.aload_n 0, 1) := by decide +kernel
theorem dX12_fired_20 : decode cX12_fired 20 = .ok (.iconst 1, 1) := by decide +kernel
theorem dX12_fired_21 : decode cX12_fired 21 = .ok (.invokevirtual 137, 3) := by decide +kernel
theorem dX12_fired_24 : decode cX12_fired 24 = .ok (.ireturn, 1) := by decide +kernel
theorem dX12_fired_25 : decode cX12_fired 25 = .ok (.aload_n 0, 1) := by decide +kernel
theorem dX12_fired_26 : decode cX12_fired 26 = .ok (.getfield 7, 3) := by decide +kernel
theorem dX12_fired_29 : decode cX12_fired 29 = .ok (.sipush 7023, 3) := by decide +kernel
theorem dX12_fired_32 : decode cX12_fired 32 = .ok (.iload_n 1, 1) := by decide +kernel
theorem dX12_fired_33 : decode cX12_fired 33 = .ok (.iadd, 1) := by decide +kernel
theorem dX12_fired_34 : decode cX12_fired 34 = .ok (.iaload, 1) := by decide +kernel
theorem dX12_fired_35 : decode cX12_fired 35 = .ok (.ireturn, 1) := by decide +kernel
theorem dX12_chance_0 : decode cX12_chance 0 = .ok (.aload_n 0, 1) := by decide +kernel
theorem dX12_chance_1 : decode cX12_chance 1 = .ok (.iconst 0, 1) := by decide +kernel
theorem dX12_chance_2 : decode cX12_chance 2 = .ok (.putfield 118, 3) := by decide +kernel
theorem dX12_chance_5 : decode cX12_chance 5 = .ok (.lconst 1, 1) := by decide +kernel
theorem dX12_chance_6 : decode cX12_chance 6 = .ok (.lstore_n 2, 1) := by decide +kernel
theorem dX12_chance_7 : decode cX12_chance 7 = .ok (.iconst 0, 1) := by decide +kernel
theorem dX12_chance_8 : decode cX12_chance 8 = .ok (.istore 4, 2) := by decide +kernel
theorem dX12_chance_10 : decode cX12_chance 10 = .ok (.iload 4, 2) := by decide +kernel
theorem dX12_chance_12 : decode cX12_chance 12 = .ok (.bipush 7, 2) := by decide +kernel
theorem dX12_chance_14 : decode cX12_chance 14 = .ok (.if_icmp .ge 70, 3) := by decide +kernel
theorem dX12_chance_17 : decode cX12_chance 17 = .ok (.iload_n 1, 1) := by decide +kernel
theorem dX12_chance_18 : decode cX12_chance 18 = .ok (.ifCond .eq 17, 3) := by decide +kernel
theorem dX12_chance_21 : decode cX12_chance 21 = .ok (.aload_n 0, 1) := by decide +kernel
theorem dX12_chance_22 : decode cX12_chance 22 = .ok (.getfield 7, 3) := by decide +kernel
theorem dX12_chance_25 : decode cX12_chance 25 = .ok (.sipush 7031, 3) := by decide +kernel
theorem dX12_chance_28 : decode cX12_chance 28 = .ok (.iload 4, 2) := by decide +kernel
theorem dX12_chance_30 : decode cX12_chance 30 = .ok (.iadd, 1) := by decide +kernel
theorem dX12_chance_31 : decode cX12_chance 31 = .ok (.iaload, 1) := by decide +kernel
theorem dX12_chance_32 : decode cX12_chance 32 = .ok (.goto 15, 3) := by decide +kernel
theorem dX12_chance_35 : decode cX12_chance 35 = .ok (.aload_n 0, 1) := by decide +kernel
theorem dX12_chance_36 : decode cX12_chance 36 = .ok (.getfield 7, 3) := by decide +kernel
theorem dX12_chance_39 : decode cX12_chance 39 = .ok (.sipush 7031, 3) := by decide +kernel
theorem dX12_chance_42 : decode cX12_chance 42 = .ok (.iload 4, 2) := by decide +kernel
theorem dX12_chance_44 : decode cX12_chance 44 = .ok (.iadd, 1) := by decide +kernel
theorem dX12_chance_45 : decode cX12_chance 45 = .ok (.iaload, 1) := by decide +kernel
theorem dX12_chance_46 : decode cX12_chance 46 = .ok (.ineg, 1) := by decide +kernel
theorem dX12_chance_47 : decode cX12_chance 47 = .ok (.istore 5, 2) := by decide +kernel
theorem dX12_chance_49 : decode cX12_chance 49 = .ok (.iconst 0, 1) := by decide +kernel
theorem dX12_chance_50 : decode cX12_chance 50 = .ok (.istore 6, 2) := by decide +kernel
theorem dX12_chance_52 : decode cX12_chance 52 = .ok (.iload 6, 2) := by decide +kernel
theorem dX12_chance_54 : decode cX12_chance 54 = .ok (.iload 5, 2) := by decide +kernel
theorem dX12_chance_56 : decode cX12_chance 56 = .ok (.if_icmp .ge 22, 3) := by decide +kernel
theorem dX12_chance_59 : decode cX12_chance 59 = .ok (.lload_n 2, 1) := by decide +kernel
theorem dX12_chance_60 : decode cX12_chance 60 = .ok (.iload 4, 2) := by decide +kernel
theorem dX12_chance_62 : decode cX12_chance 62 = .ok (.invokestatic 279, 3) := by decide +kernel
theorem dX12_chance_65 : decode cX12_chance 65 = .ok (.i2l, 1) := by decide +kernel
theorem dX12_chance_66 : decode cX12_chance 66 = .ok (.lmul, 1) := by decide +kernel
theorem dX12_chance_67 : decode cX12_chance 67 = .ok (.ldc2_w 380, 3) := by decide +kernel
theorem dX12_chance_70 : decode cX12_chance 70 = .ok (.lrem, 1) := by decide +kernel
theorem dX12_chance_71 : decode cX12_chance 71 = .ok (.lstore_n 2, 1) := by decide +kernel
theorem dX12_chance_72 : decode cX12_chance 72 = .ok (.iinc 6 1, 3) := by decide +kernel
theorem dX12_chance_75 : decode cX12_chance 75 = .ok (.goto (-23), 3) := by decide +kernel
theorem dX12_chance_78 : decode cX12_chance 78 = .ok (.iinc 4 1, 3) := by decide +kernel
theorem dX12_chance_81 : decode cX12_chance 81 = .ok (.goto (-71), 3) := by decide +kernel
theorem dX12_chance_84 : decode cX12_chance 84 = .ok (.lload_n 2, 1) := by decide +kernel
theorem dX12_chance_85 : decode cX12_chance 85 = .ok (.l2i, 1) := by decide +kernel
theorem dX12_chance_86 : decode cX12_chance 86 = .ok (.ireturn, 1) := by decide +kernel
