abbrev cL_cell : ByteArray := method_2_code
def yL_cell : MethodName := ⟨RL, "cell", "([II)I"⟩
abbrev cBat : ByteArray := method_3_code
def yL_at : MethodName := ⟨RL, "at", "(II)I"⟩
abbrev cL_gcd : ByteArray := method_4_code
def yL_gcd : MethodName := ⟨RL, "gcd", "(JJ)J"⟩
abbrev cL_law : ByteArray := code
def yL_law : MethodName := ⟨RL, "law", "([I)Z"⟩
theorem dL_cell_0 : decode cL_cell 0 = .ok (.iload_n 1, 1) := by decide +kernel
theorem dL_cell_1 : decode cL_cell 1 = .ok (.aload_n 0, 1) := by decide +kernel
theorem dL_cell_2 : decode cL_cell 2 = .ok (.arraylength, 1) := by decide +kernel
theorem dL_cell_3 : decode cL_cell 3 = .ok (.if_icmp .ge 9, 3) := by decide +kernel
theorem dL_cell_6 : decode cL_cell 6 = .ok (.aload_n 0, 1) := by decide +kernel
theorem dL_cell_7 : decode cL_cell 7 = .ok (.iload_n 1, 1) := by decide +kernel
theorem dL_cell_8 : decode cL_cell 8 = .ok (.iaload, 1) := by decide +kernel
theorem dL_cell_9 : decode cL_cell 9 = .ok (.goto 9, 3) := by decide +kernel
theorem dL_cell_12 : decode cL_cell 12 = .ok (.ldc 7, 2) := by decide +kernel
theorem dL_cell_14 : decode cL_cell 14 = .ok (.iload_n 1, 1) := by decide +kernel
theorem dL_cell_15 : decode cL_cell 15 = .ok (.iconst 1, 1) := by decide +kernel
theorem dL_cell_16 : decode cL_cell 16 = .ok (.iadd, 1) := by decide +kernel
theorem dL_cell_17 : decode cL_cell 17 = .ok (.imul, 1) := by decide +kernel
theorem dL_cell_18 : decode cL_cell 18 = .ok (.ireturn, 1) := by decide +kernel
theorem dL_at_0 : decode cBat 0 = .ok (.iload_n 0, 1) := by decide +kernel
theorem dL_at_1 : decode cBat 1 = .ok (.iconst 1, 1) := by decide +kernel
theorem dL_at_2 : decode cBat 2 = .ok (.iushr, 1) := by decide +kernel
theorem dL_at_3 : decode cBat 3 = .ok (.iload_n 1, 1) := by decide +kernel
theorem dL_at_4 : decode cBat 4 = .ok (.irem, 1) := by decide +kernel
theorem dL_at_5 : decode cBat 5 = .ok (.ireturn, 1) := by decide +kernel
theorem dL_gcd_0 : decode cL_gcd 0 = .ok (.lload_n 0, 1) := by decide +kernel
theorem dL_gcd_1 : decode cL_gcd 1 = .ok (.lstore 4, 2) := by decide +kernel
theorem dL_gcd_3 : decode cL_gcd 3 = .ok (.lload_n 2, 1) := by decide +kernel
theorem dL_gcd_4 : decode cL_gcd 4 = .ok (.lstore 6, 2) := by decide +kernel
theorem dL_gcd_6 : decode cL_gcd 6 = .ok (.lload 6, 2) := by decide +kernel
theorem dL_gcd_8 : decode cL_gcd 8 = .ok (.lconst 0, 1) := by decide +kernel
theorem dL_gcd_9 : decode cL_gcd 9 = .ok (.lcmp, 1) := by decide +kernel
theorem dL_gcd_10 : decode cL_gcd 10 = .ok (.ifCond .eq 21, 3) := by decide +kernel
theorem dL_gcd_13 : decode cL_gcd 13 = .ok (.lload 4, 2) := by decide +kernel
theorem dL_gcd_15 : decode cL_gcd 15 = .ok (.lload 6, 2) := by decide +kernel
theorem dL_gcd_17 : decode cL_gcd 17 = .ok (.lrem, 1) := by decide +kernel
theorem dL_gcd_18 : decode cL_gcd 18 = .ok (.lstore 8, 2) := by decide +kernel
theorem dL_gcd_20 : decode cL_gcd 20 = .ok (.lload 6, 2) := by decide +kernel
theorem dL_gcd_22 : decode cL_gcd 22 = .ok (.lstore 4, 2) := by decide +kernel
theorem dL_gcd_24 : decode cL_gcd 24 = .ok (.lload 8, 2) := by decide +kernel
theorem dL_gcd_26 : decode cL_gcd 26 = .ok (.lstore 6, 2) := by decide +kernel
theorem dL_gcd_28 : decode cL_gcd 28 = .ok (.goto (-22), 3) := by decide +kernel
theorem dL_gcd_31 : decode cL_gcd 31 = .ok (.lload 4, 2) := by decide +kernel
theorem dL_gcd_33 : decode cL_gcd 33 = .ok (.lreturn, 1) := by decide +kernel
theorem dL_law_0 : decode cL_law 0 = .ok (.new 8, 3) := by decide +kernel
theorem dL_law_3 : decode cL_law 3 = .ok (.dup, 1) := by decide +kernel
theorem dL_law_4 : decode cL_law 4 = .ok (.invokespecial 10, 3) := by decide +kernel
theorem dL_law_7 : decode cL_law 7 = .ok (.astore_n 1, 1) := by decide +kernel
theorem dL_law_8 : decode cL_law 8 = .ok (.aload_n 1, 1) := by decide +kernel
theorem dL_law_9 : decode cL_law 9 = .ok (.invokevirtual 11, 3) := by decide +kernel
theorem dL_law_12 : decode cL_law 12 = .ok (.istore_n 2, 1) := by decide +kernel
theorem dL_law_13 : decode cL_law 13 = .ok (.aload_n 1, 1) := by decide +kernel
theorem dL_law_14 : decode cL_law 14 = .ok (.iconst 0, 1) := by decide +kernel
theorem dL_law_15 : decode cL_law 15 = .ok (.sipush 200, 3) := by decide +kernel
theorem dL_law_18 : decode cL_law 18 = .ok (.sipush 201, 3) := by decide +kernel
theorem dL_law_21 : decode cL_law 21 = .ok (.iconst 1, 1) := by decide +kernel
theorem dL_law_22 : decode cL_law 22 = .ok (.invokevirtual 15, 3) := by decide +kernel
theorem dL_law_25 : decode cL_law 25 = .ok (.istore_n 3, 1) := by decide +kernel
theorem dL_law_26 : decode cL_law 26 = .ok (.aload_n 1, 1) := by decide +kernel
theorem dL_law_27 : decode cL_law 27 = .ok (.iconst 1, 1) := by decide +kernel
theorem dL_law_28 : decode cL_law 28 = .ok (.sipush 200, 3) := by decide +kernel
theorem dL_law_31 : decode cL_law 31 = .ok (.sipush 201, 3) := by decide +kernel
theorem dL_law_34 : decode cL_law 34 = .ok (.iconst 1, 1) := by decide +kernel
theorem dL_law_35 : decode cL_law 35 = .ok (.invokevirtual 15, 3) := by decide +kernel
theorem dL_law_38 : decode cL_law 38 = .ok (.istore 4, 2) := by decide +kernel
theorem dL_law_40 : decode cL_law 40 = .ok (.aload_n 1, 1) := by decide +kernel
theorem dL_law_41 : decode cL_law 41 = .ok (.iconst 1, 1) := by decide +kernel
theorem dL_law_42 : decode cL_law 42 = .ok (.iconst 2, 1) := by decide +kernel
theorem dL_law_43 : decode cL_law 43 = .ok (.invokevirtual 19, 3) := by decide +kernel
theorem dL_law_46 : decode cL_law 46 = .ok (.istore 5, 2) := by decide +kernel
theorem dL_law_48 : decode cL_law 48 = .ok (.aload_n 1, 1) := by decide +kernel
theorem dL_law_49 : decode cL_law 49 = .ok (.iload 5, 2) := by decide +kernel
theorem dL_law_51 : decode cL_law 51 = .ok (.iload 5, 2) := by decide +kernel
theorem dL_law_53 : decode cL_law 53 = .ok (.invokevirtual 23, 3) := by decide +kernel
theorem dL_law_56 : decode cL_law 56 = .ok (.istore 6, 2) := by decide +kernel
theorem dL_law_58 : decode cL_law 58 = .ok (.aload_n 1, 1) := by decide +kernel
theorem dL_law_59 : decode cL_law 59 = .ok (.iconst 2, 1) := by decide +kernel
theorem dL_law_60 : decode cL_law 60 = .ok (.sipush 200, 3) := by decide +kernel
theorem dL_law_63 : decode cL_law 63 = .ok (.sipush 201, 3) := by decide +kernel
theorem dL_law_66 : decode cL_law 66 = .ok (.iconst 1, 1) := by decide +kernel
theorem dL_law_67 : decode cL_law 67 = .ok (.invokevirtual 15, 3) := by decide +kernel
theorem dL_law_70 : decode cL_law 70 = .ok (.istore 7, 2) := by decide +kernel
theorem dL_law_72 : decode cL_law 72 = .ok (.aload_n 1, 1) := by decide +kernel
theorem dL_law_73 : decode cL_law 73 = .ok (.bipush 10, 2) := by decide +kernel
theorem dL_law_75 : decode cL_law 75 = .ok (.sipush 200, 3) := by decide +kernel
theorem dL_law_78 : decode cL_law 78 = .ok (.sipush 201, 3) := by decide +kernel
theorem dL_law_81 : decode cL_law 81 = .ok (.iload 7, 2) := by decide +kernel
theorem dL_law_83 : decode cL_law 83 = .ok (.invokevirtual 26, 3) := by decide +kernel
theorem dL_law_86 : decode cL_law 86 = .ok (.istore 8, 2) := by decide +kernel
theorem dL_law_88 : decode cL_law 88 = .ok (.iconst 1, 1) := by decide +kernel
theorem dL_law_89 : decode cL_law 89 = .ok (.istore 9, 2) := by decide +kernel
theorem dL_law_91 : decode cL_law 91 = .ok (.lconst 1, 1) := by decide +kernel
theorem dL_law_92 : decode cL_law 92 = .ok (.lstore 10, 2) := by decide +kernel
theorem dL_law_94 : decode cL_law 94 = .ok (.lconst 1, 1) := by decide +kernel
theorem dL_law_95 : decode cL_law 95 = .ok (.lstore 12, 2) := by decide +kernel
theorem dL_law_97 : decode cL_law 97 = .ok (.iconst 0, 1) := by decide +kernel
theorem dL_law_98 : decode cL_law 98 = .ok (.istore 14, 2) := by decide +kernel
theorem dL_law_100 : decode cL_law 100 = .ok (.iconst 0, 1) := by decide +kernel
theorem dL_law_101 : decode cL_law 101 = .ok (.istore 15, 2) := by decide +kernel
theorem dL_law_103 : decode cL_law 103 = .ok (.iconst 0, 1) := by decide +kernel
theorem dL_law_104 : decode cL_law 104 = .ok (.istore 16, 2) := by decide +kernel
theorem dL_law_106 : decode cL_law 106 = .ok (.iload 16, 2) := by decide +kernel
theorem dL_law_108 : decode cL_law 108 = .ok (.bipush 12, 2) := by decide +kernel
theorem dL_law_110 : decode cL_law 110 = .ok (.if_icmp .ge 615, 3) := by decide +kernel
theorem dL_law_113 : decode cL_law 113 = .ok (.aload_n 0, 1) := by decide +kernel
theorem dL_law_114 : decode cL_law 114 = .ok (.iload 16, 2) := by decide +kernel
theorem dL_law_116 : decode cL_law 116 = .ok (.invokestatic 30, 3) := by decide +kernel
theorem dL_law_119 : decode cL_law 119 = .ok (.ldc 36, 2) := by decide +kernel
theorem dL_law_121 : decode cL_law 121 = .ok (.iand, 1) := by decide +kernel
theorem dL_law_122 : decode cL_law 122 = .ok (.istore 17, 2) := by decide +kernel
theorem dL_law_124 : decode cL_law 124 = .ok (.iconst 1, 1) := by decide +kernel
theorem dL_law_125 : decode cL_law 125 = .ok (.iload 17, 2) := by decide +kernel
theorem dL_law_127 : decode cL_law 127 = .ok (.bipush 9, 2) := by decide +kernel
theorem dL_law_129 : decode cL_law 129 = .ok (.invokestatic 37, 3) := by decide +kernel
theorem dL_law_132 : decode cL_law 132 = .ok (.iadd, 1) := by decide +kernel
theorem dL_law_133 : decode cL_law 133 = .ok (.istore 18, 2) := by decide +kernel
theorem dL_law_135 : decode cL_law 135 = .ok (.iconst 1, 1) := by decide +kernel
theorem dL_law_136 : decode cL_law 136 = .ok (.iload 17, 2) := by decide +kernel
theorem dL_law_138 : decode cL_law 138 = .ok (.iconst 5, 1) := by decide +kernel
theorem dL_law_139 : decode cL_law 139 = .ok (.ishr, 1) := by decide +kernel
theorem dL_law_140 : decode cL_law 140 = .ok (.bipush 9, 2) := by decide +kernel
theorem dL_law_142 : decode cL_law 142 = .ok (.invokestatic 37, 3) := by decide +kernel
theorem dL_law_145 : decode cL_law 145 = .ok (.iadd, 1) := by decide +kernel
theorem dL_law_146 : decode cL_law 146 = .ok (.istore 19, 2) := by decide +kernel
theorem dL_law_148 : decode cL_law 148 = .ok (.aload_n 1, 1) := by decide +kernel
theorem dL_law_149 : decode cL_law 149 = .ok (.iload 18, 2) := by decide +kernel
theorem dL_law_151 : decode cL_law 151 = .ok (.iload_n 3, 1) := by decide +kernel
theorem dL_law_152 : decode cL_law 152 = .ok (.iload 19, 2) := by decide +kernel
theorem dL_law_154 : decode cL_law 154 = .ok (.iload 4, 2) := by decide +kernel
theorem dL_law_156 : decode cL_law 156 = .ok (.invokevirtual 40, 3) := by decide +kernel
theorem dL_law_159 : decode cL_law 159 = .ok (.istore 20, 2) := by decide +kernel
theorem dL_law_161 : decode cL_law 161 = .ok (.iload 17, 2) := by decide +kernel
theorem dL_law_163 : decode cL_law 163 = .ok (.bipush 10, 2) := by decide +kernel
theorem dL_law_165 : decode cL_law 165 = .ok (.ishr, 1) := by decide +kernel
theorem dL_law_166 : decode cL_law 166 = .ok (.iconst 3, 1) := by decide +kernel
theorem dL_law_167 : decode cL_law 167 = .ok (.invokestatic 37, 3) := by decide +kernel
theorem dL_law_170 : decode cL_law 170 = .ok (.istore 21, 2) := by decide +kernel
theorem dL_law_172 : decode cL_law 172 = .ok (.iload 21, 2) := by decide +kernel
theorem dL_law_174 : decode cL_law 174 = .ok (.ifCond .ne 8, 3) := by decide +kernel
theorem dL_law_177 : decode cL_law 177 = .ok (.iload 20, 2) := by decide +kernel
theorem dL_law_179 : decode cL_law 179 = .ok (.goto 34, 3) := by decide +kernel
theorem dL_law_182 : decode cL_law 182 = .ok (.iload 21, 2) := by decide +kernel
theorem dL_law_184 : decode cL_law 184 = .ok (.iconst 1, 1) := by decide +kernel
theorem dL_law_185 : decode cL_law 185 = .ok (.if_icmp .ne 14, 3) := by decide +kernel
theorem dL_law_188 : decode cL_law 188 = .ok (.aload_n 1, 1) := by decide +kernel
theorem dL_law_189 : decode cL_law 189 = .ok (.iload 8, 2) := by decide +kernel
theorem dL_law_191 : decode cL_law 191 = .ok (.iload 20, 2) := by decide +kernel
theorem dL_law_193 : decode cL_law 193 = .ok (.invokevirtual 23, 3) := by decide +kernel
theorem dL_law_196 : decode cL_law 196 = .ok (.goto 17, 3) := by decide +kernel
theorem dL_law_199 : decode cL_law 199 = .ok (.aload_n 1, 1) := by decide +kernel
theorem dL_law_200 : decode cL_law 200 = .ok (.aload_n 1, 1) := by decide +kernel
theorem dL_law_201 : decode cL_law 201 = .ok (.iload 20, 2) := by decide +kernel
theorem dL_law_203 : decode cL_law 203 = .ok (.iload 6, 2) := by decide +kernel
theorem dL_law_205 : decode cL_law 205 = .ok (.invokevirtual 23, 3) := by decide +kernel
theorem dL_law_208 : decode cL_law 208 = .ok (.iload 7, 2) := by decide +kernel
theorem dL_law_210 : decode cL_law 210 = .ok (.invokevirtual 43, 3) := by decide +kernel
theorem dL_law_213 : decode cL_law 213 = .ok (.istore 22, 2) := by decide +kernel
theorem dL_law_215 : decode cL_law 215 = .ok (.aload_n 1, 1) := by decide +kernel
theorem dL_law_216 : decode cL_law 216 = .ok (.invokevirtual 46, 3) := by decide +kernel
theorem dL_law_219 : decode cL_law 219 = .ok (.istore 23, 2) := by decide +kernel
theorem dL_law_221 : decode cL_law 221 = .ok (.iload 23, 2) := by decide +kernel
theorem dL_law_223 : decode cL_law 223 = .ok (.ifCond .eq 9, 3) := by decide +kernel
theorem dL_law_226 : decode cL_law 226 = .ok (.iload 23, 2) := by decide +kernel
theorem dL_law_228 : decode cL_law 228 = .ok (.iconst (-1), 1) := by decide +kernel
theorem dL_law_229 : decode cL_law 229 = .ok (.if_icmp .ge 5, 3) := by decide +kernel
theorem dL_law_232 : decode cL_law 232 = .ok (.iconst 0, 1) := by decide +kernel
theorem dL_law_233 : decode cL_law 233 = .ok (.ireturn, 1) := by decide +kernel
theorem dL_law_234 : decode cL_law 234 = .ok (.aload_n 1, 1) := by decide +kernel
theorem dL_law_235 : decode cL_law 235 = .ok (.iload 22, 2) := by decide +kernel
theorem dL_law_237 : decode cL_law 237 = .ok (.iload 16, 2) := by decide +kernel
theorem dL_law_239 : decode cL_law 239 = .ok (.bipush 9, 2) := by decide +kernel
theorem dL_law_241 : decode cL_law 241 = .ok (.invokevirtual 49, 3) := by decide +kernel
theorem dL_law_244 : decode cL_law 244 = .ok (.iconst 1, 1) := by decide +kernel
theorem dL_law_245 : decode cL_law 245 = .ok (.if_icmp .eq 5, 3) := by decide +kernel
theorem dL_law_248 : decode cL_law 248 = .ok (.iconst 0, 1) := by decide +kernel
theorem dL_law_249 : decode cL_law 249 = .ok (.ireturn, 1) := by decide +kernel
theorem dL_law_250 : decode cL_law 250 = .ok (.aload_n 1, 1) := by decide +kernel
theorem dL_law_251 : decode cL_law 251 = .ok (.invokevirtual 53, 3) := by decide +kernel
theorem dL_law_254 : decode cL_law 254 = .ok (.istore 24, 2) := by decide +kernel
theorem dL_law_256 : decode cL_law 256 = .ok (.iload 21, 2) := by decide +kernel
theorem dL_law_258 : decode cL_law 258 = .ok (.ifCond .ne 10, 3) := by decide +kernel
theorem dL_law_261 : decode cL_law 261 = .ok (.aload_n 1, 1) := by decide +kernel
theorem dL_law_262 : decode cL_law 262 = .ok (.invokevirtual 46, 3) := by decide +kernel
theorem dL_law_265 : decode cL_law 265 = .ok (.goto 4, 3) := by decide +kernel
theorem dL_law_268 : decode cL_law 268 = .ok (.iconst 1, 1) := by decide +kernel
theorem dL_law_269 : decode cL_law 269 = .ok (.istore 25, 2) := by decide +kernel
theorem dL_law_271 : decode cL_law 271 = .ok (.aload_n 1, 1) := by decide +kernel
theorem dL_law_272 : decode cL_law 272 = .ok (.invokevirtual 57, 3) := by decide +kernel
theorem dL_law_275 : decode cL_law 275 = .ok (.istore 26, 2) := by decide +kernel
theorem dL_law_277 : decode cL_law 277 = .ok (.ldc2_w 60, 3) := by decide +kernel
theorem dL_law_280 : decode cL_law 280 = .ok (.iload 9, 2) := by decide +kernel
theorem dL_law_282 : decode cL_law 282 = .ok (.i2l, 1) := by decide +kernel
theorem dL_law_283 : decode cL_law 283 = .ok (.lmul, 1) := by decide +kernel
theorem dL_law_284 : decode cL_law 284 = .ok (.ldc2_w 62, 3) := by decide +kernel
theorem dL_law_287 : decode cL_law 287 = .ok (.ladd, 1) := by decide +kernel
theorem dL_law_288 : decode cL_law 288 = .ok (.ldc2_w 64, 3) := by decide +kernel
theorem dL_law_291 : decode cL_law 291 = .ok (.lrem, 1) := by decide +kernel
theorem dL_law_292 : decode cL_law 292 = .ok (.l2i, 1) := by decide +kernel
theorem dL_law_293 : decode cL_law 293 = .ok (.istore 9, 2) := by decide +kernel
theorem dL_law_295 : decode cL_law 295 = .ok (.iload 9, 2) := by decide +kernel
theorem dL_law_297 : decode cL_law 297 = .ok (.iload 18, 2) := by decide +kernel
theorem dL_law_299 : decode cL_law 299 = .ok (.iload 19, 2) := by decide +kernel
theorem dL_law_301 : decode cL_law 301 = .ok (.iadd, 1) := by decide +kernel
theorem dL_law_302 : decode cL_law 302 = .ok (.irem, 1) := by decide +kernel
theorem dL_law_303 : decode cL_law 303 = .ok (.iload 18, 2) := by decide +kernel
theorem dL_law_305 : decode cL_law 305 = .ok (.if_icmp .ge 7, 3) := by decide +kernel
theorem dL_law_308 : decode cL_law 308 = .ok (.iconst 1, 1) := by decide +kernel
theorem dL_law_309 : decode cL_law 309 = .ok (.goto 4, 3) := by decide +kernel
theorem dL_law_312 : decode cL_law 312 = .ok (.iconst 0, 1) := by decide +kernel
theorem dL_law_313 : decode cL_law 313 = .ok (.istore 27, 2) := by decide +kernel
theorem dL_law_315 : decode cL_law 315 = .ok (.lload 10, 2) := by decide +kernel
theorem dL_law_317 : decode cL_law 317 = .ok (.iload 27, 2) := by decide +kernel
theorem dL_law_319 : decode cL_law 319 = .ok (.ifCond .eq 9, 3) := by decide +kernel
theorem dL_law_322 : decode cL_law 322 = .ok (.iload 18, 2) := by decide +kernel
theorem dL_law_324 : decode cL_law 324 = .ok (.i2l, 1) := by decide +kernel
theorem dL_law_325 : decode cL_law 325 = .ok (.goto 6, 3) := by decide +kernel
theorem dL_law_328 : decode cL_law 328 = .ok (.iload 19, 2) := by decide +kernel
theorem dL_law_330 : decode cL_law 330 = .ok (.i2l, 1) := by decide +kernel
theorem dL_law_331 : decode cL_law 331 = .ok (.lmul, 1) := by decide +kernel
theorem dL_law_332 : decode cL_law 332 = .ok (.lstore 10, 2) := by decide +kernel
theorem dL_law_334 : decode cL_law 334 = .ok (.lload 12, 2) := by decide +kernel
theorem dL_law_336 : decode cL_law 336 = .ok (.iload 18, 2) := by decide +kernel
theorem dL_law_338 : decode cL_law 338 = .ok (.iload 19, 2) := by decide +kernel
theorem dL_law_340 : decode cL_law 340 = .ok (.iadd, 1) := by decide +kernel
theorem dL_law_341 : decode cL_law 341 = .ok (.i2l, 1) := by decide +kernel
theorem dL_law_342 : decode cL_law 342 = .ok (.lmul, 1) := by decide +kernel
theorem dL_law_343 : decode cL_law 343 = .ok (.lstore 12, 2) := by decide +kernel
theorem dL_law_345 : decode cL_law 345 = .ok (.lload 10, 2) := by decide +kernel
theorem dL_law_347 : decode cL_law 347 = .ok (.lload 12, 2) := by decide +kernel
theorem dL_law_349 : decode cL_law 349 = .ok (.invokestatic 66, 3) := by decide +kernel
theorem dL_law_352 : decode cL_law 352 = .ok (.lstore 28, 2) := by decide +kernel
theorem dL_law_354 : decode cL_law 354 = .ok (.lload 10, 2) := by decide +kernel
theorem dL_law_356 : decode cL_law 356 = .ok (.lload 28, 2) := by decide +kernel
theorem dL_law_358 : decode cL_law 358 = .ok (.ldiv, 1) := by decide +kernel
theorem dL_law_359 : decode cL_law 359 = .ok (.lstore 10, 2) := by decide +kernel
theorem dL_law_361 : decode cL_law 361 = .ok (.lload 12, 2) := by decide +kernel
theorem dL_law_363 : decode cL_law 363 = .ok (.lload 28, 2) := by decide +kernel
theorem dL_law_365 : decode cL_law 365 = .ok (.ldiv, 1) := by decide +kernel
theorem dL_law_366 : decode cL_law 366 = .ok (.lstore 12, 2) := by decide +kernel
theorem dL_law_368 : decode cL_law 368 = .ok (.iload 24, 2) := by decide +kernel
theorem dL_law_370 : decode cL_law 370 = .ok (.ifCond .ne 59, 3) := by decide +kernel
theorem dL_law_373 : decode cL_law 373 = .ok (.iload 25, 2) := by decide +kernel
theorem dL_law_375 : decode cL_law 375 = .ok (.iconst 1, 1) := by decide +kernel
theorem dL_law_376 : decode cL_law 376 = .ok (.if_icmp .ne 53, 3) := by decide +kernel
theorem dL_law_379 : decode cL_law 379 = .ok (.aload_n 1, 1) := by decide +kernel
theorem dL_law_380 : decode cL_law 380 = .ok (.invokevirtual 53, 3) := by decide +kernel
theorem dL_law_383 : decode cL_law 383 = .ok (.ifCond .ne 46, 3) := by decide +kernel
theorem dL_law_386 : decode cL_law 386 = .ok (.aload_n 1, 1) := by decide +kernel
theorem dL_law_387 : decode cL_law 387 = .ok (.iconst 1, 1) := by decide +kernel
theorem dL_law_388 : decode cL_law 388 = .ok (.invokevirtual 70, 3) := by decide +kernel
theorem dL_law_391 : decode cL_law 391 = .ok (.i2l, 1) := by decide +kernel
theorem dL_law_392 : decode cL_law 392 = .ok (.lload 10, 2) := by decide +kernel
theorem dL_law_394 : decode cL_law 394 = .ok (.ldc2_w 74, 3) := by decide +kernel
theorem dL_law_397 : decode cL_law 397 = .ok (.lrem, 1) := by decide +kernel
theorem dL_law_398 : decode cL_law 398 = .ok (.lcmp, 1) := by decide +kernel
theorem dL_law_399 : decode cL_law 399 = .ok (.ifCond .ne 30, 3) := by decide +kernel
theorem dL_law_402 : decode cL_law 402 = .ok (.aload_n 1, 1) := by decide +kernel
theorem dL_law_403 : decode cL_law 403 = .ok (.iconst 0, 1) := by decide +kernel
theorem dL_law_404 : decode cL_law 404 = .ok (.invokevirtual 70, 3) := by decide +kernel
theorem dL_law_407 : decode cL_law 407 = .ok (.i2l, 1) := by decide +kernel
theorem dL_law_408 : decode cL_law 408 = .ok (.lload 12, 2) := by decide +kernel
theorem dL_law_410 : decode cL_law 410 = .ok (.ldc2_w 74, 3) := by decide +kernel
theorem dL_law_413 : decode cL_law 413 = .ok (.lrem, 1) := by decide +kernel
theorem dL_law_414 : decode cL_law 414 = .ok (.lcmp, 1) := by decide +kernel
theorem dL_law_415 : decode cL_law 415 = .ok (.ifCond .ne 14, 3) := by decide +kernel
theorem dL_law_418 : decode cL_law 418 = .ok (.aload_n 1, 1) := by decide +kernel
theorem dL_law_419 : decode cL_law 419 = .ok (.iload 9, 2) := by decide +kernel
theorem dL_law_421 : decode cL_law 421 = .ok (.invokevirtual 76, 3) := by decide +kernel
theorem dL_law_424 : decode cL_law 424 = .ok (.iload 9, 2) := by decide +kernel
theorem dL_law_426 : decode cL_law 426 = .ok (.if_icmp .eq 5, 3) := by decide +kernel
theorem dL_law_429 : decode cL_law 429 = .ok (.iconst 0, 1) := by decide +kernel
theorem dL_law_430 : decode cL_law 430 = .ok (.ireturn, 1) := by decide +kernel
theorem dL_law_431 : decode cL_law 431 = .ok (.iload 21, 2) := by decide +kernel
theorem dL_law_433 : decode cL_law 433 = .ok (.ifCond .ne 7, 3) := by decide +kernel
theorem dL_law_436 : decode cL_law 436 = .ok (.iconst 1, 1) := by decide +kernel
theorem dL_law_437 : decode cL_law 437 = .ok (.goto 23, 3) := by decide +kernel
theorem dL_law_440 : decode cL_law 440 = .ok (.iload 21, 2) := by decide +kernel
theorem dL_law_442 : decode cL_law 442 = .ok (.iconst 1, 1) := by decide +kernel
theorem dL_law_443 : decode cL_law 443 = .ok (.if_icmp .ne 16, 3) := by decide +kernel
theorem dL_law_446 : decode cL_law 446 = .ok (.iload 27, 2) := by decide +kernel
theorem dL_law_448 : decode cL_law 448 = .ok (.ifCond .eq 7, 3) := by decide +kernel
theorem dL_law_451 : decode cL_law 451 = .ok (.iconst 2, 1) := by decide +kernel
theorem dL_law_452 : decode cL_law 452 = .ok (.goto 8, 3) := by decide +kernel
theorem dL_law_455 : decode cL_law 455 = .ok (.iconst 1, 1) := by decide +kernel
theorem dL_law_456 : decode cL_law 456 = .ok (.goto 4, 3) := by decide +kernel
theorem dL_law_459 : decode cL_law 459 = .ok (.iconst 2, 1) := by decide +kernel
theorem dL_law_460 : decode cL_law 460 = .ok (.istore 30, 2) := by decide +kernel
theorem dL_law_462 : decode cL_law 462 = .ok (.aload_n 1, 1) := by decide +kernel
theorem dL_law_463 : decode cL_law 463 = .ok (.invokevirtual 80, 3) := by decide +kernel
theorem dL_law_466 : decode cL_law 466 = .ok (.iload 14, 2) := by decide +kernel
theorem dL_law_468 : decode cL_law 468 = .ok (.iload 30, 2) := by decide +kernel
theorem dL_law_470 : decode cL_law 470 = .ok (.iadd, 1) := by decide +kernel
theorem dL_law_471 : decode cL_law 471 = .ok (.if_icmp .eq 5, 3) := by decide +kernel
theorem dL_law_474 : decode cL_law 474 = .ok (.iconst 0, 1) := by decide +kernel
theorem dL_law_475 : decode cL_law 475 = .ok (.ireturn, 1) := by decide +kernel
theorem dL_law_476 : decode cL_law 476 = .ok (.iload 21, 2) := by decide +kernel
theorem dL_law_478 : decode cL_law 478 = .ok (.iconst 2, 1) := by decide +kernel
theorem dL_law_479 : decode cL_law 479 = .ok (.if_icmp .ne 74, 3) := by decide +kernel
theorem dL_law_482 : decode cL_law 482 = .ok (.aload_n 1, 1) := by decide +kernel
theorem dL_law_483 : decode cL_law 483 = .ok (.iload 14, 2) := by decide +kernel
theorem dL_law_485 : decode cL_law 485 = .ok (.iconst 0, 1) := by decide +kernel
theorem dL_law_486 : decode cL_law 486 = .ok (.invokevirtual 83, 3) := by decide +kernel
theorem dL_law_489 : decode cL_law 489 = .ok (.iload 27, 2) := by decide +kernel
theorem dL_law_491 : decode cL_law 491 = .ok (.ifCond .eq 7, 3) := by decide +kernel
theorem dL_law_494 : decode cL_law 494 = .ok (.iconst 0, 1) := by decide +kernel
theorem dL_law_495 : decode cL_law 495 = .ok (.goto 4, 3) := by decide +kernel
theorem dL_law_498 : decode cL_law 498 = .ok (.iconst 1, 1) := by decide +kernel
theorem dL_law_499 : decode cL_law 499 = .ok (.if_icmp .ne 46, 3) := by decide +kernel
theorem dL_law_502 : decode cL_law 502 = .ok (.aload_n 1, 1) := by decide +kernel
theorem dL_law_503 : decode cL_law 503 = .ok (.iload 14, 2) := by decide +kernel
theorem dL_law_505 : decode cL_law 505 = .ok (.iconst 3, 1) := by decide +kernel
theorem dL_law_506 : decode cL_law 506 = .ok (.invokevirtual 83, 3) := by decide +kernel
theorem dL_law_509 : decode cL_law 509 = .ok (.ifCond .ne 36, 3) := by decide +kernel
theorem dL_law_512 : decode cL_law 512 = .ok (.aload_n 1, 1) := by decide +kernel
theorem dL_law_513 : decode cL_law 513 = .ok (.iload 14, 2) := by decide +kernel
theorem dL_law_515 : decode cL_law 515 = .ok (.iconst 1, 1) := by decide +kernel
theorem dL_law_516 : decode cL_law 516 = .ok (.iadd, 1) := by decide +kernel
theorem dL_law_517 : decode cL_law 517 = .ok (.iconst 0, 1) := by decide +kernel
theorem dL_law_518 : decode cL_law 518 = .ok (.invokevirtual 83, 3) := by decide +kernel
theorem dL_law_521 : decode cL_law 521 = .ok (.iconst 2, 1) := by decide +kernel
theorem dL_law_522 : decode cL_law 522 = .ok (.if_icmp .ne 23, 3) := by decide +kernel
theorem dL_law_525 : decode cL_law 525 = .ok (.aload_n 1, 1) := by decide +kernel
theorem dL_law_526 : decode cL_law 526 = .ok (.iload 14, 2) := by decide +kernel
theorem dL_law_528 : decode cL_law 528 = .ok (.iconst 1, 1) := by decide +kernel
theorem dL_law_529 : decode cL_law 529 = .ok (.iadd, 1) := by decide +kernel
theorem dL_law_530 : decode cL_law 530 = .ok (.iload 14, 2) := by decide +kernel
theorem dL_law_532 : decode cL_law 532 = .ok (.invokevirtual 86, 3) := by decide +kernel
theorem dL_law_535 : decode cL_law 535 = .ok (.ifCond .ne 10, 3) := by decide +kernel
theorem dL_law_538 : decode cL_law 538 = .ok (.iload 26, 2) := by decide +kernel
theorem dL_law_540 : decode cL_law 540 = .ok (.bipush 7, 2) := by decide +kernel
theorem dL_law_542 : decode cL_law 542 = .ok (.if_icmp .eq 5, 3) := by decide +kernel
theorem dL_law_545 : decode cL_law 545 = .ok (.iconst 0, 1) := by decide +kernel
theorem dL_law_546 : decode cL_law 546 = .ok (.ireturn, 1) := by decide +kernel
theorem dL_law_547 : decode cL_law 547 = .ok (.iinc 15 1, 3) := by decide +kernel
theorem dL_law_550 : decode cL_law 550 = .ok (.goto 114, 3) := by decide +kernel
theorem dL_law_553 : decode cL_law 553 = .ok (.aload_n 1, 1) := by decide +kernel
theorem dL_law_554 : decode cL_law 554 = .ok (.iload 14, 2) := by decide +kernel
theorem dL_law_556 : decode cL_law 556 = .ok (.iconst 0, 1) := by decide +kernel
theorem dL_law_557 : decode cL_law 557 = .ok (.invokevirtual 83, 3) := by decide +kernel
theorem dL_law_560 : decode cL_law 560 = .ok (.iload 27, 2) := by decide +kernel
theorem dL_law_562 : decode cL_law 562 = .ok (.ifCond .eq 7, 3) := by decide +kernel
theorem dL_law_565 : decode cL_law 565 = .ok (.iconst 0, 1) := by decide +kernel
theorem dL_law_566 : decode cL_law 566 = .ok (.goto 4, 3) := by decide +kernel
theorem dL_law_569 : decode cL_law 569 = .ok (.iconst 1, 1) := by decide +kernel
theorem dL_law_570 : decode cL_law 570 = .ok (.if_icmp .ne 38, 3) := by decide +kernel
theorem dL_law_573 : decode cL_law 573 = .ok (.aload_n 1, 1) := by decide +kernel
theorem dL_law_574 : decode cL_law 574 = .ok (.iload 14, 2) := by decide +kernel
theorem dL_law_576 : decode cL_law 576 = .ok (.iconst 1, 1) := by decide +kernel
theorem dL_law_577 : decode cL_law 577 = .ok (.invokevirtual 83, 3) := by decide +kernel
theorem dL_law_580 : decode cL_law 580 = .ok (.iload 16, 2) := by decide +kernel
theorem dL_law_582 : decode cL_law 582 = .ok (.if_icmp .ne 26, 3) := by decide +kernel
theorem dL_law_585 : decode cL_law 585 = .ok (.aload_n 1, 1) := by decide +kernel
theorem dL_law_586 : decode cL_law 586 = .ok (.iload 14, 2) := by decide +kernel
theorem dL_law_588 : decode cL_law 588 = .ok (.iconst 2, 1) := by decide +kernel
theorem dL_law_589 : decode cL_law 589 = .ok (.invokevirtual 83, 3) := by decide +kernel
theorem dL_law_592 : decode cL_law 592 = .ok (.bipush 9, 2) := by decide +kernel
theorem dL_law_594 : decode cL_law 594 = .ok (.if_icmp .ne 14, 3) := by decide +kernel
theorem dL_law_597 : decode cL_law 597 = .ok (.aload_n 1, 1) := by decide +kernel
theorem dL_law_598 : decode cL_law 598 = .ok (.iload 14, 2) := by decide +kernel
theorem dL_law_600 : decode cL_law 600 = .ok (.iconst 3, 1) := by decide +kernel
theorem dL_law_601 : decode cL_law 601 = .ok (.invokevirtual 83, 3) := by decide +kernel
theorem dL_law_604 : decode cL_law 604 = .ok (.iconst 1, 1) := by decide +kernel
theorem dL_law_605 : decode cL_law 605 = .ok (.if_icmp .eq 5, 3) := by decide +kernel
theorem dL_law_608 : decode cL_law 608 = .ok (.iconst 0, 1) := by decide +kernel
theorem dL_law_609 : decode cL_law 609 = .ok (.ireturn, 1) := by decide +kernel
theorem dL_law_610 : decode cL_law 610 = .ok (.iload 30, 2) := by decide +kernel
theorem dL_law_612 : decode cL_law 612 = .ok (.iconst 2, 1) := by decide +kernel
theorem dL_law_613 : decode cL_law 613 = .ok (.if_icmp .ne 31, 3) := by decide +kernel
theorem dL_law_616 : decode cL_law 616 = .ok (.aload_n 1, 1) := by decide +kernel
theorem dL_law_617 : decode cL_law 617 = .ok (.iload 14, 2) := by decide +kernel
theorem dL_law_619 : decode cL_law 619 = .ok (.iconst 1, 1) := by decide +kernel
theorem dL_law_620 : decode cL_law 620 = .ok (.iadd, 1) := by decide +kernel
theorem dL_law_621 : decode cL_law 621 = .ok (.iconst 0, 1) := by decide +kernel
theorem dL_law_622 : decode cL_law 622 = .ok (.invokevirtual 83, 3) := by decide +kernel
theorem dL_law_625 : decode cL_law 625 = .ok (.iconst 2, 1) := by decide +kernel
theorem dL_law_626 : decode cL_law 626 = .ok (.if_icmp .ne 16, 3) := by decide +kernel
theorem dL_law_629 : decode cL_law 629 = .ok (.aload_n 1, 1) := by decide +kernel
theorem dL_law_630 : decode cL_law 630 = .ok (.iload 14, 2) := by decide +kernel
theorem dL_law_632 : decode cL_law 632 = .ok (.iconst 1, 1) := by decide +kernel
theorem dL_law_633 : decode cL_law 633 = .ok (.iadd, 1) := by decide +kernel
theorem dL_law_634 : decode cL_law 634 = .ok (.iload 14, 2) := by decide +kernel
theorem dL_law_636 : decode cL_law 636 = .ok (.invokevirtual 86, 3) := by decide +kernel
theorem dL_law_639 : decode cL_law 639 = .ok (.ifCond .ne 5, 3) := by decide +kernel
theorem dL_law_642 : decode cL_law 642 = .ok (.iconst 0, 1) := by decide +kernel
theorem dL_law_643 : decode cL_law 643 = .ok (.ireturn, 1) := by decide +kernel
theorem dL_law_644 : decode cL_law 644 = .ok (.iload 21, 2) := by decide +kernel
theorem dL_law_646 : decode cL_law 646 = .ok (.ifCond .ne 11, 3) := by decide +kernel
theorem dL_law_649 : decode cL_law 649 = .ok (.iload 26, 2) := by decide +kernel
theorem dL_law_651 : decode cL_law 651 = .ok (.iconst 2, 1) := by decide +kernel
theorem dL_law_652 : decode cL_law 652 = .ok (.if_icmp .eq 5, 3) := by decide +kernel
theorem dL_law_655 : decode cL_law 655 = .ok (.iconst 0, 1) := by decide +kernel
theorem dL_law_656 : decode cL_law 656 = .ok (.ireturn, 1) := by decide +kernel
theorem dL_law_657 : decode cL_law 657 = .ok (.iload 15, 2) := by decide +kernel
theorem dL_law_659 : decode cL_law 659 = .ok (.iload 30, 2) := by decide +kernel
theorem dL_law_661 : decode cL_law 661 = .ok (.iadd, 1) := by decide +kernel
theorem dL_law_662 : decode cL_law 662 = .ok (.istore 15, 2) := by decide +kernel
theorem dL_law_664 : decode cL_law 664 = .ok (.iload 14, 2) := by decide +kernel
theorem dL_law_666 : decode cL_law 666 = .ok (.iload 30, 2) := by decide +kernel
theorem dL_law_668 : decode cL_law 668 = .ok (.iadd, 1) := by decide +kernel
theorem dL_law_669 : decode cL_law 669 = .ok (.istore 14, 2) := by decide +kernel
theorem dL_law_671 : decode cL_law 671 = .ok (.aload_n 1, 1) := by decide +kernel
theorem dL_law_672 : decode cL_law 672 = .ok (.invokevirtual 90, 3) := by decide +kernel
theorem dL_law_675 : decode cL_law 675 = .ok (.iload 15, 2) := by decide +kernel
theorem dL_law_677 : decode cL_law 677 = .ok (.if_icmp .ne 40, 3) := by decide +kernel
theorem dL_law_680 : decode cL_law 680 = .ok (.aload_n 1, 1) := by decide +kernel
theorem dL_law_681 : decode cL_law 681 = .ok (.invokevirtual 93, 3) := by decide +kernel
theorem dL_law_684 : decode cL_law 684 = .ok (.iload 15, 2) := by decide +kernel
theorem dL_law_686 : decode cL_law 686 = .ok (.if_icmp .ne 31, 3) := by decide +kernel
theorem dL_law_689 : decode cL_law 689 = .ok (.aload_n 1, 1) := by decide +kernel
theorem dL_law_690 : decode cL_law 690 = .ok (.invokevirtual 96, 3) := by decide +kernel
theorem dL_law_693 : decode cL_law 693 = .ok (.iload 16, 2) := by decide +kernel
theorem dL_law_695 : decode cL_law 695 = .ok (.iconst 1, 1) := by decide +kernel
theorem dL_law_696 : decode cL_law 696 = .ok (.iadd, 1) := by decide +kernel
theorem dL_law_697 : decode cL_law 697 = .ok (.if_icmp .ne 20, 3) := by decide +kernel
theorem dL_law_700 : decode cL_law 700 = .ok (.aload_n 1, 1) := by decide +kernel
theorem dL_law_701 : decode cL_law 701 = .ok (.invokevirtual 99, 3) := by decide +kernel
theorem dL_law_704 : decode cL_law 704 = .ok (.ifCond .ne 13, 3) := by decide +kernel
theorem dL_law_707 : decode cL_law 707 = .ok (.aload_n 1, 1) := by decide +kernel
theorem dL_law_708 : decode cL_law 708 = .ok (.iload_n 2, 1) := by decide +kernel
theorem dL_law_709 : decode cL_law 709 = .ok (.invokevirtual 102, 3) := by decide +kernel
theorem dL_law_712 : decode cL_law 712 = .ok (.bipush 100, 2) := by decide +kernel
theorem dL_law_714 : decode cL_law 714 = .ok (.if_icmp .eq 5, 3) := by decide +kernel
theorem dL_law_717 : decode cL_law 717 = .ok (.iconst 0, 1) := by decide +kernel
theorem dL_law_718 : decode cL_law 718 = .ok (.ireturn, 1) := by decide +kernel
theorem dL_law_719 : decode cL_law 719 = .ok (.iinc 16 1, 3) := by decide +kernel
theorem dL_law_722 : decode cL_law 722 = .ok (.goto (-616), 3) := by decide +kernel
theorem dL_law_725 : decode cL_law 725 = .ok (.iconst 1, 1) := by decide +kernel
theorem dL_law_726 : decode cL_law 726 = .ok (.ireturn, 1) := by decide +kernel
/-! printed: words by their places, constants, fields, calls -/
theorem wd_32 : Cond.initialized yL_gcd.cls ∈ lwg := tb_1 (List.mem_of_getElem? (i := 0) rfl) rfl
theorem wd_520 : Cond.methodLink RL 11 yX11_variable ∈ lwg := tb_3 (List.mem_of_getElem? (i := 8) rfl) rfl
theorem wd_521 : Cond.instanceMethod yX11_variable ∈ lwg := tb_3 (List.mem_of_getElem? (i := 9) rfl) rfl
theorem wd_522 : Cond.selects yX11_variable.cls yX11_variable yX11_variable ∈ lwg := tb_3 (List.mem_of_getElem? (i := 10) rfl) rfl
theorem wd_523 : Cond.code yX11_variable cX11_variable 2 (some .int) ∈ lwg := tb_3 (List.mem_of_getElem? (i := 11) rfl) rfl
theorem wd_600 : Cond.methodLink RL 19 yX11_equate ∈ lwg := tb_3 (List.mem_of_getElem? (i := 88) rfl) rfl
theorem wd_601 : Cond.instanceMethod yX11_equate ∈ lwg := tb_3 (List.mem_of_getElem? (i := 89) rfl) rfl
theorem wd_602 : Cond.selects yX11_equate.cls yX11_equate yX11_equate ∈ lwg := tb_3 (List.mem_of_getElem? (i := 90) rfl) rfl
theorem wd_603 : Cond.code yX11_equate cX11_equate 3 (some .int) ∈ lwg := tb_3 (List.mem_of_getElem? (i := 91) rfl) rfl
theorem wd_641 : Cond.methodLink RL 15 yX11_token ∈ lwg := tb_3 (List.mem_of_getElem? (i := 129) rfl) rfl
theorem wd_642 : Cond.instanceMethod yX11_token ∈ lwg := tb_3 (List.mem_of_getElem? (i := 130) rfl) rfl
theorem wd_643 : Cond.selects yX11_token.cls yX11_token yX11_token ∈ lwg := tb_3 (List.mem_of_getElem? (i := 131) rfl) rfl
theorem wd_644 : Cond.code yX11_token cX11_token 5 (some .int) ∈ lwg := tb_3 (List.mem_of_getElem? (i := 132) rfl) rfl
theorem wd_652 : Cond.methodLink RL 23 yX11_both ∈ lwg := tb_3 (List.mem_of_getElem? (i := 140) rfl) rfl
theorem wd_653 : Cond.instanceMethod yX11_both ∈ lwg := tb_3 (List.mem_of_getElem? (i := 141) rfl) rfl
theorem wd_654 : Cond.selects yX11_both.cls yX11_both yX11_both ∈ lwg := tb_3 (List.mem_of_getElem? (i := 142) rfl) rfl
theorem wd_655 : Cond.code yX11_both cX11_both 3 (some .int) ∈ lwg := tb_3 (List.mem_of_getElem? (i := 143) rfl) rfl
theorem wd_676 : Cond.methodLink RL 26 yX11_when ∈ lwg := tb_3 (List.mem_of_getElem? (i := 164) rfl) rfl
theorem wd_677 : Cond.instanceMethod yX11_when ∈ lwg := tb_3 (List.mem_of_getElem? (i := 165) rfl) rfl
theorem wd_678 : Cond.selects yX11_when.cls yX11_when yX11_when ∈ lwg := tb_3 (List.mem_of_getElem? (i := 166) rfl) rfl
theorem wd_679 : Cond.code yX11_when cX11_when 6 (some .int) ∈ lwg := tb_3 (List.mem_of_getElem? (i := 167) rfl) rfl
theorem wd_686 : Cond.methodLink RL 40 yX11_lot ∈ lwg := tb_3 (List.mem_of_getElem? (i := 174) rfl) rfl
theorem wd_687 : Cond.instanceMethod yX11_lot ∈ lwg := tb_3 (List.mem_of_getElem? (i := 175) rfl) rfl
theorem wd_688 : Cond.selects yX11_lot.cls yX11_lot yX11_lot ∈ lwg := tb_3 (List.mem_of_getElem? (i := 176) rfl) rfl
theorem wd_689 : Cond.code yX11_lot cX11_lot 5 (some .int) ∈ lwg := tb_3 (List.mem_of_getElem? (i := 177) rfl) rfl
theorem wd_690 : Cond.methodLink RL 43 yX11_attempt ∈ lwg := tb_3 (List.mem_of_getElem? (i := 178) rfl) rfl
theorem wd_691 : Cond.instanceMethod yX11_attempt ∈ lwg := tb_3 (List.mem_of_getElem? (i := 179) rfl) rfl
theorem wd_692 : Cond.selects yX11_attempt.cls yX11_attempt yX11_attempt ∈ lwg := tb_3 (List.mem_of_getElem? (i := 180) rfl) rfl
theorem wd_693 : Cond.code yX11_attempt cX11_attempt 3 (some .int) ∈ lwg := tb_3 (List.mem_of_getElem? (i := 181) rfl) rfl
theorem wd_694 : Cond.methodLink RL 49 yX11_begin ∈ lwg := tb_3 (List.mem_of_getElem? (i := 182) rfl) rfl
theorem wd_695 : Cond.instanceMethod yX11_begin ∈ lwg := tb_3 (List.mem_of_getElem? (i := 183) rfl) rfl
theorem wd_696 : Cond.selects yX11_begin.cls yX11_begin yX11_begin ∈ lwg := tb_3 (List.mem_of_getElem? (i := 184) rfl) rfl
theorem wd_697 : Cond.code yX11_begin cX11_begin 4 (some .int) ∈ lwg := tb_3 (List.mem_of_getElem? (i := 185) rfl) rfl
theorem wd_724 : Cond.methodLink RL 57 yX11_step ∈ lwg := tb_3 (List.mem_of_getElem? (i := 212) rfl) rfl
theorem wd_725 : Cond.instanceMethod yX11_step ∈ lwg := tb_3 (List.mem_of_getElem? (i := 213) rfl) rfl
theorem wd_726 : Cond.selects yX11_step.cls yX11_step yX11_step ∈ lwg := tb_3 (List.mem_of_getElem? (i := 214) rfl) rfl
theorem wd_727 : Cond.code yX11_step cX11_step 1 (some .int) ∈ lwg := tb_3 (List.mem_of_getElem? (i := 215) rfl) rfl
theorem wd_978 : Cond.methodLink RL 76 yX11_seed ∈ lwg := tb_4 (List.mem_of_getElem? (i := 226) rfl) rfl
theorem wd_979 : Cond.instanceMethod yX11_seed ∈ lwg := tb_4 (List.mem_of_getElem? (i := 227) rfl) rfl
theorem wd_980 : Cond.selects yX11_seed.cls yX11_seed yX11_seed ∈ lwg := tb_4 (List.mem_of_getElem? (i := 228) rfl) rfl
theorem wd_981 : Cond.code yX11_seed cX11_seed 3 (some .int) ∈ lwg := tb_4 (List.mem_of_getElem? (i := 229) rfl) rfl
theorem wd_983 : Cond.methodLink RL 46 yX11_ends ∈ lwg := tb_4 (List.mem_of_getElem? (i := 231) rfl) rfl
theorem wd_984 : Cond.instanceMethod yX11_ends ∈ lwg := tb_4 (List.mem_of_getElem? (i := 232) rfl) rfl
theorem wd_985 : Cond.selects yX11_ends.cls yX11_ends yX11_ends ∈ lwg := tb_4 (List.mem_of_getElem? (i := 233) rfl) rfl
theorem wd_986 : Cond.code yX11_ends cX11_ends 3 (some .int) ∈ lwg := tb_4 (List.mem_of_getElem? (i := 234) rfl) rfl
theorem wd_1033 : Cond.methodLink RL 96 yX11_clock ∈ lwg := tb_5 (List.mem_of_getElem? (i := 41) rfl) rfl
theorem wd_1034 : Cond.instanceMethod yX11_clock ∈ lwg := tb_5 (List.mem_of_getElem? (i := 42) rfl) rfl
theorem wd_1035 : Cond.selects yX11_clock.cls yX11_clock yX11_clock ∈ lwg := tb_5 (List.mem_of_getElem? (i := 43) rfl) rfl
theorem wd_1036 : Cond.code yX11_clock cX11_clock 1 (some .int) ∈ lwg := tb_5 (List.mem_of_getElem? (i := 44) rfl) rfl
theorem wd_1037 : Cond.methodLink RL 53 yX11_hasFailed ∈ lwg := tb_5 (List.mem_of_getElem? (i := 45) rfl) rfl
theorem wd_1038 : Cond.instanceMethod yX11_hasFailed ∈ lwg := tb_5 (List.mem_of_getElem? (i := 46) rfl) rfl
theorem wd_1039 : Cond.selects yX11_hasFailed.cls yX11_hasFailed yX11_hasFailed ∈ lwg := tb_5 (List.mem_of_getElem? (i := 47) rfl) rfl
theorem wd_1040 : Cond.code yX11_hasFailed cX11_hasFailed 1 (some .boolean) ∈ lwg := tb_5 (List.mem_of_getElem? (i := 48) rfl) rfl
theorem wd_1041 : Cond.methodLink RL 102 yX11_value ∈ lwg := tb_5 (List.mem_of_getElem? (i := 49) rfl) rfl
theorem wd_1042 : Cond.instanceMethod yX11_value ∈ lwg := tb_5 (List.mem_of_getElem? (i := 50) rfl) rfl
theorem wd_1043 : Cond.selects yX11_value.cls yX11_value yX11_value ∈ lwg := tb_5 (List.mem_of_getElem? (i := 51) rfl) rfl
theorem wd_1044 : Cond.code yX11_value cX11_value 3 (some .int) ∈ lwg := tb_5 (List.mem_of_getElem? (i := 52) rfl) rfl
theorem wd_1050 : Cond.methodLink RL 80 yX11_tokens ∈ lwg := tb_5 (List.mem_of_getElem? (i := 58) rfl) rfl
theorem wd_1051 : Cond.instanceMethod yX11_tokens ∈ lwg := tb_5 (List.mem_of_getElem? (i := 59) rfl) rfl
theorem wd_1052 : Cond.selects yX11_tokens.cls yX11_tokens yX11_tokens ∈ lwg := tb_5 (List.mem_of_getElem? (i := 60) rfl) rfl
theorem wd_1053 : Cond.code yX11_tokens cX11_tokens 1 (some .int) ∈ lwg := tb_5 (List.mem_of_getElem? (i := 61) rfl) rfl
theorem wd_1054 : Cond.methodLink RL 83 yX11_part ∈ lwg := tb_5 (List.mem_of_getElem? (i := 62) rfl) rfl
theorem wd_1055 : Cond.instanceMethod yX11_part ∈ lwg := tb_5 (List.mem_of_getElem? (i := 63) rfl) rfl
theorem wd_1056 : Cond.selects yX11_part.cls yX11_part yX11_part ∈ lwg := tb_5 (List.mem_of_getElem? (i := 64) rfl) rfl
theorem wd_1057 : Cond.code yX11_part cX11_part 4 (some .int) ∈ lwg := tb_5 (List.mem_of_getElem? (i := 65) rfl) rfl
theorem wd_1064 : Cond.methodLink RL 86 yX11_isMadeBy ∈ lwg := tb_5 (List.mem_of_getElem? (i := 72) rfl) rfl
theorem wd_1065 : Cond.instanceMethod yX11_isMadeBy ∈ lwg := tb_5 (List.mem_of_getElem? (i := 73) rfl) rfl
theorem wd_1066 : Cond.selects yX11_isMadeBy.cls yX11_isMadeBy yX11_isMadeBy ∈ lwg := tb_5 (List.mem_of_getElem? (i := 74) rfl) rfl
theorem wd_1067 : Cond.code yX11_isMadeBy cX11_isMadeBy 3 (some .boolean) ∈ lwg := tb_5 (List.mem_of_getElem? (i := 75) rfl) rfl
theorem wd_1069 : Cond.methodLink RL 90 yX11_standing ∈ lwg := tb_5 (List.mem_of_getElem? (i := 77) rfl) rfl
theorem wd_1070 : Cond.instanceMethod yX11_standing ∈ lwg := tb_5 (List.mem_of_getElem? (i := 78) rfl) rfl
theorem wd_1071 : Cond.selects yX11_standing.cls yX11_standing yX11_standing ∈ lwg := tb_5 (List.mem_of_getElem? (i := 79) rfl) rfl
theorem wd_1072 : Cond.code yX11_standing cX11_standing 1 (some .int) ∈ lwg := tb_5 (List.mem_of_getElem? (i := 80) rfl) rfl
theorem wd_1074 : Cond.methodLink RL 93 yX11_standingAnew ∈ lwg := tb_5 (List.mem_of_getElem? (i := 82) rfl) rfl
theorem wd_1075 : Cond.instanceMethod yX11_standingAnew ∈ lwg := tb_5 (List.mem_of_getElem? (i := 83) rfl) rfl
theorem wd_1076 : Cond.selects yX11_standingAnew.cls yX11_standingAnew yX11_standingAnew ∈ lwg := tb_5 (List.mem_of_getElem? (i := 84) rfl) rfl
theorem wd_1077 : Cond.code yX11_standingAnew cX11_standingAnew 3 (some .int) ∈ lwg := tb_5 (List.mem_of_getElem? (i := 85) rfl) rfl
theorem wd_1098 : Cond.methodLink RL 99 yX11_waiting ∈ lwg := tb_5 (List.mem_of_getElem? (i := 106) rfl) rfl
theorem wd_1099 : Cond.instanceMethod yX11_waiting ∈ lwg := tb_5 (List.mem_of_getElem? (i := 107) rfl) rfl
theorem wd_1100 : Cond.selects yX11_waiting.cls yX11_waiting yX11_waiting ∈ lwg := tb_5 (List.mem_of_getElem? (i := 108) rfl) rfl
theorem wd_1101 : Cond.code yX11_waiting cX11_waiting 1 (some .int) ∈ lwg := tb_5 (List.mem_of_getElem? (i := 109) rfl) rfl
theorem wd_1102 : Cond.methodLink RL 70 yX11_chance ∈ lwg := tb_5 (List.mem_of_getElem? (i := 110) rfl) rfl
theorem wd_1103 : Cond.instanceMethod yX11_chance ∈ lwg := tb_5 (List.mem_of_getElem? (i := 111) rfl) rfl
theorem wd_1104 : Cond.selects yX11_chance.cls yX11_chance yX11_chance ∈ lwg := tb_5 (List.mem_of_getElem? (i := 112) rfl) rfl
theorem wd_1105 : Cond.code yX11_chance cX11_chance 2 (some .int) ∈ lwg := tb_5 (List.mem_of_getElem? (i := 113) rfl) rfl
theorem wd_1111 : Cond.methodLink RL 30 yL_cell ∈ lwg := tb_5 (List.mem_of_getElem? (i := 119) rfl) rfl
theorem wd_1112 : Cond.static yL_cell ∈ lwg := tb_5 (List.mem_of_getElem? (i := 120) rfl) rfl
theorem wd_1113 : Cond.code yL_cell cL_cell 2 (some .int) ∈ lwg := tb_5 (List.mem_of_getElem? (i := 121) rfl) rfl
theorem wd_1114 : Jvm.Cond.constant RL 7 (700923669) ∈ lwg := tb_5 (List.mem_of_getElem? (i := 122) rfl) rfl
theorem wd_1115 : Cond.methodLink RL 37 yL_at ∈ lwg := tb_5 (List.mem_of_getElem? (i := 123) rfl) rfl
theorem wd_1116 : Cond.static yL_at ∈ lwg := tb_5 (List.mem_of_getElem? (i := 124) rfl) rfl
theorem wd_1117 : Cond.code yL_at cBat 2 (some .int) ∈ lwg := tb_5 (List.mem_of_getElem? (i := 125) rfl) rfl
theorem wd_1118 : Cond.methodLink RL 66 yL_gcd ∈ lwg := tb_5 (List.mem_of_getElem? (i := 126) rfl) rfl
theorem wd_1119 : Cond.static yL_gcd ∈ lwg := tb_5 (List.mem_of_getElem? (i := 127) rfl) rfl
theorem wd_1120 : Cond.code yL_gcd cL_gcd 10 (some .long) ∈ lwg := tb_5 (List.mem_of_getElem? (i := 128) rfl) rfl
theorem wd_1121 : Jvm.Cond.constant RL 36 (2147483647) ∈ lwg := tb_5 (List.mem_of_getElem? (i := 129) rfl) rfl
theorem wd_1122 : Jvm.Cond.constantLong RL 60 (75) ∈ lwg := tb_5 (List.mem_of_getElem? (i := 130) rfl) rfl
theorem wd_1123 : Jvm.Cond.constantLong RL 62 (74) ∈ lwg := tb_5 (List.mem_of_getElem? (i := 131) rfl) rfl
theorem wd_1124 : Jvm.Cond.constantLong RL 64 (65537) ∈ lwg := tb_5 (List.mem_of_getElem? (i := 132) rfl) rfl
theorem wd_1125 : Jvm.Cond.constantLong RL 74 (1000003) ∈ lwg := tb_5 (List.mem_of_getElem? (i := 133) rfl) rfl
theorem ib_7 : (Int8.ofInt (7)).toInt32 = 7 := by decide +kernel
theorem is_201 : (Int16.ofInt (201)).toInt32 = 201 := by decide +kernel
theorem ml_L_30 : MLS RL 30 yL_cell cL_cell 2 (some .int) 2 := ⟨⟨wd_1111, wd_1112, wd_32, wd_1113⟩, by decide +kernel, by decide +kernel, by decide +kernel⟩
theorem ml_L_37 : MLS RL 37 yL_at cBat 2 (some .int) 2 := ⟨⟨wd_1115, wd_1116, wd_32, wd_1117⟩, by decide +kernel, by decide +kernel, by decide +kernel⟩
theorem ml_L_40 : MLV RL 40 yX11_lot cX11_lot 5 (some .int) 4 := ⟨⟨wd_686, wd_687, wd_688, wd_33, wd_689⟩, by decide +kernel, by decide +kernel, by decide +kernel⟩
theorem ml_L_46 : MLV RL 46 yX11_ends cX11_ends 3 (some .int) 0 := ⟨⟨wd_983, wd_984, wd_985, wd_33, wd_986⟩, by decide +kernel, by decide +kernel, by decide +kernel⟩
theorem ml_L_49 : MLV RL 49 yX11_begin cX11_begin 4 (some .int) 3 := ⟨⟨wd_694, wd_695, wd_696, wd_33, wd_697⟩, by decide +kernel, by decide +kernel, by decide +kernel⟩
theorem ml_L_53 : MLV RL 53 yX11_hasFailed cX11_hasFailed 1 (some .boolean) 0 := ⟨⟨wd_1037, wd_1038, wd_1039, wd_33, wd_1040⟩, by decide +kernel, by decide +kernel, by decide +kernel⟩
theorem ml_L_57 : MLV RL 57 yX11_step cX11_step 1 (some .int) 0 := ⟨⟨wd_724, wd_725, wd_726, wd_33, wd_727⟩, by decide +kernel, by decide +kernel, by decide +kernel⟩
theorem ml_L_66 : MLS RL 66 yL_gcd cL_gcd 10 (some .long) 2 := ⟨⟨wd_1118, wd_1119, wd_32, wd_1120⟩, by decide +kernel, by decide +kernel, by decide +kernel⟩
theorem ml_L_70 : MLV RL 70 yX11_chance cX11_chance 2 (some .int) 1 := ⟨⟨wd_1102, wd_1103, wd_1104, wd_33, wd_1105⟩, by decide +kernel, by decide +kernel, by decide +kernel⟩
theorem ml_L_76 : MLV RL 76 yX11_seed cX11_seed 3 (some .int) 1 := ⟨⟨wd_978, wd_979, wd_980, wd_33, wd_981⟩, by decide +kernel, by decide +kernel, by decide +kernel⟩
theorem ml_L_80 : MLV RL 80 yX11_tokens cX11_tokens 1 (some .int) 0 := ⟨⟨wd_1050, wd_1051, wd_1052, wd_33, wd_1053⟩, by decide +kernel, by decide +kernel, by decide +kernel⟩
theorem ml_L_83 : MLV RL 83 yX11_part cX11_part 4 (some .int) 2 := ⟨⟨wd_1054, wd_1055, wd_1056, wd_33, wd_1057⟩, by decide +kernel, by decide +kernel, by decide +kernel⟩
theorem ml_L_86 : MLV RL 86 yX11_isMadeBy cX11_isMadeBy 3 (some .boolean) 2 := ⟨⟨wd_1064, wd_1065, wd_1066, wd_33, wd_1067⟩, by decide +kernel, by decide +kernel, by decide +kernel⟩
theorem ml_L_90 : MLV RL 90 yX11_standing cX11_standing 1 (some .int) 0 := ⟨⟨wd_1069, wd_1070, wd_1071, wd_33, wd_1072⟩, by decide +kernel, by decide +kernel, by decide +kernel⟩
theorem ml_L_93 : MLV RL 93 yX11_standingAnew cX11_standingAnew 3 (some .int) 0 := ⟨⟨wd_1074, wd_1075, wd_1076, wd_33, wd_1077⟩, by decide +kernel, by decide +kernel, by decide +kernel⟩
theorem ml_L_96 : MLV RL 96 yX11_clock cX11_clock 1 (some .int) 0 := ⟨⟨wd_1033, wd_1034, wd_1035, wd_33, wd_1036⟩, by decide +kernel, by decide +kernel, by decide +kernel⟩
theorem ml_L_99 : MLV RL 99 yX11_waiting cX11_waiting 1 (some .int) 0 := ⟨⟨wd_1098, wd_1099, wd_1100, wd_33, wd_1101⟩, by decide +kernel, by decide +kernel, by decide +kernel⟩
theorem ml_L_102 : MLV RL 102 yX11_value cX11_value 3 (some .int) 1 := ⟨⟨wd_1041, wd_1042, wd_1043, wd_33, wd_1044⟩, by decide +kernel, by decide +kernel, by decide +kernel⟩
theorem ml_L_23 : MLV RL 23 yX11_both cX11_both 3 (some .int) 2 := ⟨⟨wd_652, wd_653, wd_654, wd_33, wd_655⟩, by decide +kernel, by decide +kernel, by decide +kernel⟩
theorem ml_L_43 : MLV RL 43 yX11_attempt cX11_attempt 3 (some .int) 2 := ⟨⟨wd_690, wd_691, wd_692, wd_33, wd_693⟩, by decide +kernel, by decide +kernel, by decide +kernel⟩
theorem ml_L_11 : MLV RL 11 yX11_variable cX11_variable 2 (some .int) 0 := ⟨⟨wd_520, wd_521, wd_522, wd_33, wd_523⟩, by decide +kernel, by decide +kernel, by decide +kernel⟩
theorem ml_L_15 : MLV RL 15 yX11_token cX11_token 5 (some .int) 4 := ⟨⟨wd_641, wd_642, wd_643, wd_33, wd_644⟩, by decide +kernel, by decide +kernel, by decide +kernel⟩
theorem ml_L_19 : MLV RL 19 yX11_equate cX11_equate 3 (some .int) 2 := ⟨⟨wd_600, wd_601, wd_602, wd_33, wd_603⟩, by decide +kernel, by decide +kernel, by decide +kernel⟩
theorem ml_L_26 : MLV RL 26 yX11_when cX11_when 6 (some .int) 4 := ⟨⟨wd_676, wd_677, wd_678, wd_33, wd_679⟩, by decide +kernel, by decide +kernel, by decide +kernel⟩
