theorem dX11_isIn_0 : decode cX11_isIn 0 = .ok (.lload_n 0, 1) := by decide +kernel
theorem dX11_isIn_1 : decode cX11_isIn 1 = .ok (.lload_n 2, 1) := by decide +kernel
theorem dX11_isIn_2 : decode cX11_isIn 2 = .ok (.lcmp, 1) := by decide +kernel
theorem dX11_isIn_3 : decode cX11_isIn 3 = .ok (.ifCond .lt 14, 3) := by decide +kernel
theorem dX11_isIn_6 : decode cX11_isIn 6 = .ok (.lload_n 0, 1) := by decide +kernel
theorem dX11_isIn_7 : decode cX11_isIn 7 = .ok (.lload 4, 2) := by decide +kernel
theorem dX11_isIn_9 : decode cX11_isIn 9 = .ok (.lcmp, 1) := by decide +kernel
theorem dX11_isIn_10 : decode cX11_isIn 10 = .ok (.ifCond .gt 7, 3) := by decide +kernel
theorem dX11_isIn_13 : decode cX11_isIn 13 = .ok (.iconst 1, 1) := by decide +kernel
theorem dX11_isIn_14 : decode cX11_isIn 14 = .ok (.goto 4, 3) := by decide +kernel
theorem dX11_isIn_17 : decode cX11_isIn 17 = .ok (.iconst 0, 1) := by decide +kernel
theorem dX11_isIn_18 : decode cX11_isIn 18 = .ok (.ireturn, 1) := by decide +kernel
theorem dX11_init_0 : decode cX11_init 0 = .ok (.aload_n 0, 1) := by decide +kernel
theorem dX11_init_1 : decode cX11_init 1 = .ok (.invokespecial 7, 3) := by decide +kernel
theorem dX11_init_4 : decode cX11_init 4 = .ok (.aload_n 0, 1) := by decide +kernel
theorem dX11_init_5 : decode cX11_init 5 = .ok (.sipush 16384, 3) := by decide +kernel
theorem dX11_init_8 : decode cX11_init 8 = .ok (.newarray .int, 2) := by decide +kernel
theorem dX11_init_10 : decode cX11_init 10 = .ok (.putfield 13, 3) := by decide +kernel
theorem dX11_init_13 : decode cX11_init 13 = .ok (.aload_n 0, 1) := by decide +kernel
theorem dX11_init_14 : decode cX11_init 14 = .ok (.sipush 16384, 3) := by decide +kernel
theorem dX11_init_17 : decode cX11_init 17 = .ok (.newarray .int, 2) := by decide +kernel
theorem dX11_init_19 : decode cX11_init 19 = .ok (.putfield 17, 3) := by decide +kernel
theorem dX11_init_22 : decode cX11_init 22 = .ok (.aload_n 0, 1) := by decide +kernel
theorem dX11_init_23 : decode cX11_init 23 = .ok (.sipush 16384, 3) := by decide +kernel
theorem dX11_init_26 : decode cX11_init 26 = .ok (.newarray .int, 2) := by decide +kernel
theorem dX11_init_28 : decode cX11_init 28 = .ok (.putfield 20, 3) := by decide +kernel
theorem dX11_init_31 : decode cX11_init 31 = .ok (.aload_n 0, 1) := by decide +kernel
theorem dX11_init_32 : decode cX11_init 32 = .ok (.sipush 16384, 3) := by decide +kernel
theorem dX11_init_35 : decode cX11_init 35 = .ok (.newarray .int, 2) := by decide +kernel
theorem dX11_init_37 : decode cX11_init 37 = .ok (.putfield 23, 3) := by decide +kernel
theorem dX11_init_40 : decode cX11_init 40 = .ok (.aload_n 0, 1) := by decide +kernel
theorem dX11_init_41 : decode cX11_init 41 = .ok (.sipush 1024, 3) := by decide +kernel
theorem dX11_init_44 : decode cX11_init 44 = .ok (.newarray .int, 2) := by decide +kernel
theorem dX11_init_46 : decode cX11_init 46 = .ok (.putfield 26, 3) := by decide +kernel
theorem dX11_init_49 : decode cX11_init 49 = .ok (.aload_n 0, 1) := by decide +kernel
theorem dX11_init_50 : decode cX11_init 50 = .ok (.sipush 16384, 3) := by decide +kernel
theorem dX11_init_53 : decode cX11_init 53 = .ok (.newarray .int, 2) := by decide +kernel
theorem dX11_init_55 : decode cX11_init 55 = .ok (.putfield 29, 3) := by decide +kernel
theorem dX11_init_58 : decode cX11_init 58 = .ok (.aload_n 0, 1) := by decide +kernel
theorem dX11_init_59 : decode cX11_init 59 = .ok (.bipush 24, 2) := by decide +kernel
theorem dX11_init_61 : decode cX11_init 61 = .ok (.newarray .int, 2) := by decide +kernel
theorem dX11_init_63 : decode cX11_init 63 = .ok (.putfield 32, 3) := by decide +kernel
theorem dX11_init_66 : decode cX11_init 66 = .ok (.aload_n 0, 1) := by decide +kernel
theorem dX11_init_67 : decode cX11_init 67 = .ok (.bipush 6, 2) := by decide +kernel
theorem dX11_init_69 : decode cX11_init 69 = .ok (.newarray .int, 2) := by decide +kernel
theorem dX11_init_71 : decode cX11_init 71 = .ok (.putfield 35, 3) := by decide +kernel
theorem dX11_init_74 : decode cX11_init 74 = .ok (.aload_n 0, 1) := by decide +kernel
theorem dX11_init_75 : decode cX11_init 75 = .ok (.bipush 6, 2) := by decide +kernel
theorem dX11_init_77 : decode cX11_init 77 = .ok (.newarray .int, 2) := by decide +kernel
theorem dX11_init_79 : decode cX11_init 79 = .ok (.putfield 38, 3) := by decide +kernel
theorem dX11_init_82 : decode cX11_init 82 = .ok (.aload_n 0, 1) := by decide +kernel
theorem dX11_init_83 : decode cX11_init 83 = .ok (.bipush 24, 2) := by decide +kernel
theorem dX11_init_85 : decode cX11_init 85 = .ok (.newarray .int, 2) := by decide +kernel
theorem dX11_init_87 : decode cX11_init 87 = .ok (.putfield 41, 3) := by decide +kernel
theorem dX11_init_90 : decode cX11_init 90 = .ok (.aload_n 0, 1) := by decide +kernel
theorem dX11_init_91 : decode cX11_init 91 = .ok (.bipush 6, 2) := by decide +kernel
theorem dX11_init_93 : decode cX11_init 93 = .ok (.newarray .int, 2) := by decide +kernel
theorem dX11_init_95 : decode cX11_init 95 = .ok (.putfield 44, 3) := by decide +kernel
theorem dX11_init_98 : decode cX11_init 98 = .ok (.aload_n 0, 1) := by decide +kernel
theorem dX11_init_99 : decode cX11_init 99 = .ok (.bipush 6, 2) := by decide +kernel
theorem dX11_init_101 : decode cX11_init 101 = .ok (.newarray .int, 2) := by decide +kernel
theorem dX11_init_103 : decode cX11_init 103 = .ok (.putfield 47, 3) := by decide +kernel
theorem dX11_init_106 : decode cX11_init 106 = .ok (.aload_n 0, 1) := by decide +kernel
theorem dX11_init_107 : decode cX11_init 107 = .ok (.sipush 800, 3) := by decide +kernel
theorem dX11_init_110 : decode cX11_init 110 = .ok (.newarray .int, 2) := by decide +kernel
theorem dX11_init_112 : decode cX11_init 112 = .ok (.putfield 50, 3) := by decide +kernel
theorem dX11_init_115 : decode cX11_init 115 = .ok (.aload_n 0, 1) := by decide +kernel
theorem dX11_init_116 : decode cX11_init 116 = .ok (.sipush 800, 3) := by decide +kernel
theorem dX11_init_119 : decode cX11_init 119 = .ok (.newarray .int, 2) := by decide +kernel
theorem dX11_init_121 : decode cX11_init 121 = .ok (.putfield 53, 3) := by decide +kernel
theorem dX11_init_124 : decode cX11_init 124 = .ok (.aload_n 0, 1) := by decide +kernel
theorem dX11_init_125 : decode cX11_init 125 = .ok (.iconst 4, 1) := by decide +kernel
theorem dX11_init_126 : decode cX11_init 126 = .ok (.newarray .int, 2) := by decide +kernel
theorem dX11_init_128 : decode cX11_init 128 = .ok (.putfield 56, 3) := by decide +kernel
theorem dX11_init_131 : decode cX11_init 131 = .ok (.aload_n 0, 1) := by decide +kernel
theorem dX11_init_132 : decode cX11_init 132 = .ok (.sipush 400, 3) := by decide +kernel
theorem dX11_init_135 : decode cX11_init 135 = .ok (.newarray .int, 2) := by decide +kernel
theorem dX11_init_137 : decode cX11_init 137 = .ok (.putfield 59, 3) := by decide +kernel
theorem dX11_init_140 : decode cX11_init 140 = .ok (.aload_n 0, 1) := by decide +kernel
theorem dX11_init_141 : decode cX11_init 141 = .ok (.sipush 400, 3) := by decide +kernel
theorem dX11_init_144 : decode cX11_init 144 = .ok (.newarray .int, 2) := by decide +kernel
theorem dX11_init_146 : decode cX11_init 146 = .ok (.putfield 62, 3) := by decide +kernel
theorem dX11_init_149 : decode cX11_init 149 = .ok (.aload_n 0, 1) := by decide +kernel
theorem dX11_init_150 : decode cX11_init 150 = .ok (.sipush 400, 3) := by decide +kernel
theorem dX11_init_153 : decode cX11_init 153 = .ok (.newarray .int, 2) := by decide +kernel
theorem dX11_init_155 : decode cX11_init 155 = .ok (.putfield 65, 3) := by decide +kernel
theorem dX11_init_158 : decode cX11_init 158 = .ok (.aload_n 0, 1) := by decide +kernel
theorem dX11_init_159 : decode cX11_init 159 = .ok (.sipush 400, 3) := by decide +kernel
theorem dX11_init_162 : decode cX11_init 162 = .ok (.newarray .int, 2) := by decide +kernel
theorem dX11_init_164 : decode cX11_init 164 = .ok (.putfield 68, 3) := by decide +kernel
theorem dX11_init_167 : decode cX11_init 167 = .ok (.aload_n 0, 1) := by decide +kernel
theorem dX11_init_168 : decode cX11_init 168 = .ok (.sipush 600, 3) := by decide +kernel
theorem dX11_init_171 : decode cX11_init 171 = .ok (.newarray .byte, 2) := by decide +kernel
theorem dX11_init_173 : decode cX11_init 173 = .ok (.putfield 71, 3) := by decide +kernel
theorem dX11_init_176 : decode cX11_init 176 = .ok (.aload_n 0, 1) := by decide +kernel
theorem dX11_init_177 : decode cX11_init 177 = .ok (.iconst (-1), 1) := by decide +kernel
theorem dX11_init_178 : decode cX11_init 178 = .ok (.putfield 75, 3) := by decide +kernel
theorem dX11_init_181 : decode cX11_init 181 = .ok (.aload_n 0, 1) := by decide +kernel
theorem dX11_init_182 : decode cX11_init 182 = .ok (.sipush 400, 3) := by decide +kernel
theorem dX11_init_185 : decode cX11_init 185 = .ok (.newarray .int, 2) := by decide +kernel
theorem dX11_init_187 : decode cX11_init 187 = .ok (.putfield 78, 3) := by decide +kernel
theorem dX11_init_190 : decode cX11_init 190 = .ok (.aload_n 0, 1) := by decide +kernel
theorem dX11_init_191 : decode cX11_init 191 = .ok (.bipush 96, 2) := by decide +kernel
theorem dX11_init_193 : decode cX11_init 193 = .ok (.newarray .int, 2) := by decide +kernel
theorem dX11_init_195 : decode cX11_init 195 = .ok (.putfield 81, 3) := by decide +kernel
theorem dX11_init_198 : decode cX11_init 198 = .ok (.aload_n 0, 1) := by decide +kernel
theorem dX11_init_199 : decode cX11_init 199 = .ok (.bipush 24, 2) := by decide +kernel
theorem dX11_init_201 : decode cX11_init 201 = .ok (.newarray .int, 2) := by decide +kernel
theorem dX11_init_203 : decode cX11_init 203 = .ok (.putfield 84, 3) := by decide +kernel
theorem dX11_init_206 : decode cX11_init 206 = .ok (.aload_n 0, 1) := by decide +kernel
theorem dX11_init_207 : decode cX11_init 207 = .ok (.sipush 400, 3) := by decide +kernel
theorem dX11_init_210 : decode cX11_init 210 = .ok (.newarray .int, 2) := by decide +kernel
theorem dX11_init_212 : decode cX11_init 212 = .ok (.putfield 87, 3) := by decide +kernel
theorem dX11_init_215 : decode cX11_init 215 = .ok (.aload_n 0, 1) := by decide +kernel
theorem dX11_init_216 : decode cX11_init 216 = .ok (.sipush 400, 3) := by decide +kernel
theorem dX11_init_219 : decode cX11_init 219 = .ok (.newarray .int, 2) := by decide +kernel
theorem dX11_init_221 : decode cX11_init 221 = .ok (.putfield 90, 3) := by decide +kernel
theorem dX11_init_224 : decode cX11_init 224 = .ok (.aload_n 0, 1) := by decide +kernel
theorem dX11_init_225 : decode cX11_init 225 = .ok (.sipush 400, 3) := by decide +kernel
theorem dX11_init_228 : decode cX11_init 228 = .ok (.newarray .int, 2) := by decide +kernel
theorem dX11_init_230 : decode cX11_init 230 = .ok (.putfield 93, 3) := by decide +kernel
theorem dX11_init_233 : decode cX11_init 233 = .ok (.aload_n 0, 1) := by decide +kernel
theorem dX11_init_234 : decode cX11_init 234 = .ok (.bipush 60, 2) := by decide +kernel
theorem dX11_init_236 : decode cX11_init 236 = .ok (.newarray .int, 2) := by decide +kernel
theorem dX11_init_238 : decode cX11_init 238 = .ok (.putfield 96, 3) := by decide +kernel
theorem dX11_init_241 : decode cX11_init 241 = .ok (.aload_n 0, 1) := by decide +kernel
theorem dX11_init_242 : decode cX11_init 242 = .ok (.bipush 60, 2) := by decide +kernel
theorem dX11_init_244 : decode cX11_init 244 = .ok (.newarray .int, 2) := by decide +kernel
theorem dX11_init_246 : decode cX11_init 246 = .ok (.putfield 99, 3) := by decide +kernel
theorem dX11_init_249 : decode cX11_init 249 = .ok (.aload_n 0, 1) := by decide +kernel
theorem dX11_init_250 : decode cX11_init 250 = .ok (.sipush 620, 3) := by decide +kernel
theorem dX11_init_253 : decode cX11_init 253 = .ok (.newarray .int, 2) := by decide +kernel
theorem dX11_init_255 : decode cX11_init 255 = .ok (.putfield 102, 3) := by decide +kernel
theorem dX11_init_258 : decode cX11_init 258 = .ok (.aload_n 0, 1) := by decide +kernel
theorem dX11_init_259 : decode cX11_init 259 = .ok (.sipush 620, 3) := by decide +kernel
theorem dX11_init_262 : decode cX11_init 262 = .ok (.newarray .int, 2) := by decide +kernel
theorem dX11_init_264 : decode cX11_init 264 = .ok (.putfield 105, 3) := by decide +kernel
theorem dX11_init_267 : decode cX11_init 267 = .ok (.aload_n 0, 1) := by decide +kernel
theorem dX11_init_268 : decode cX11_init 268 = .ok (.sipush 1860, 3) := by decide +kernel
theorem dX11_init_271 : decode cX11_init 271 = .ok (.newarray .int, 2) := by decide +kernel
theorem dX11_init_273 : decode cX11_init 273 = .ok (.putfield 108, 3) := by decide +kernel
theorem dX11_init_276 : decode cX11_init 276 = .ok (.aload_n 0, 1) := by decide +kernel
theorem dX11_init_277 : decode cX11_init 277 = .ok (.sipush 620, 3) := by decide +kernel
theorem dX11_init_280 : decode cX11_init 280 = .ok (.newarray .int, 2) := by decide +kernel
theorem dX11_init_282 : decode cX11_init 282 = .ok (.putfield 111, 3) := by decide +kernel
theorem dX11_init_285 : decode cX11_init 285 = .ok (.aload_n 0, 1) := by decide +kernel
theorem dX11_init_286 : decode cX11_init 286 = .ok (.sipush 400, 3) := by decide +kernel
theorem dX11_init_289 : decode cX11_init 289 = .ok (.newarray .int, 2) := by decide +kernel
theorem dX11_init_291 : decode cX11_init 291 = .ok (.putfield 114, 3) := by decide +kernel
theorem dX11_init_294 : decode cX11_init 294 = .ok (.aload_n 0, 1) := by decide +kernel
theorem dX11_init_295 : decode cX11_init 295 = .ok (.sipush 200, 3) := by decide +kernel
theorem dX11_init_298 : decode cX11_init 298 = .ok (.newarray .int, 2) := by decide +kernel
theorem dX11_init_300 : decode cX11_init 300 = .ok (.putfield 117, 3) := by decide +kernel
theorem dX11_init_303 : decode cX11_init 303 = .ok (.aload_n 0, 1) := by decide +kernel
theorem dX11_init_304 : decode cX11_init 304 = .ok (.sipush 200, 3) := by decide +kernel
theorem dX11_init_307 : decode cX11_init 307 = .ok (.newarray .int, 2) := by decide +kernel
theorem dX11_init_309 : decode cX11_init 309 = .ok (.putfield 120, 3) := by decide +kernel
theorem dX11_init_312 : decode cX11_init 312 = .ok (.aload_n 0, 1) := by decide +kernel
theorem dX11_init_313 : decode cX11_init 313 = .ok (.ldc 123, 2) := by decide +kernel
theorem dX11_init_315 : decode cX11_init 315 = .ok (.newarray .int, 2) := by decide +kernel
theorem dX11_init_317 : decode cX11_init 317 = .ok (.putfield 124, 3) := by decide +kernel
theorem dX11_init_320 : decode cX11_init 320 = .ok (.aload_n 0, 1) := by decide +kernel
theorem dX11_init_321 : decode cX11_init 321 = .ok (.invokevirtual 127, 3) := by decide +kernel
theorem dX11_init_324 : decode cX11_init 324 = .ok (.aload_n 0, 1) := by decide +kernel
theorem dX11_init_325 : decode cX11_init 325 = .ok (.aload_n 0, 1) := by decide +kernel
theorem dX11_init_326 : decode cX11_init 326 = .ok (.iconst 0, 1) := by decide +kernel
theorem dX11_init_327 : decode cX11_init 327 = .ok (.iconst (-1), 1) := by decide +kernel
theorem dX11_init_328 : decode cX11_init 328 = .ok (.iconst (-1), 1) := by decide +kernel
theorem dX11_init_329 : decode cX11_init 329 = .ok (.invokevirtual 130, 3) := by decide +kernel
theorem dX11_init_332 : decode cX11_init 332 = .ok (.putfield 134, 3) := by decide +kernel
theorem dX11_init_335 : decode cX11_init 335 = .ok (.return_, 1) := by decide +kernel
theorem dX11_clears_0 : decode cX11_clears 0 = .ok (.aload_n 0, 1) := by decide +kernel
theorem dX11_clears_1 : decode cX11_clears 1 = .ok (.iconst 0, 1) := by decide +kernel
theorem dX11_clears_2 : decode cX11_clears 2 = .ok (.putfield 137, 3) := by decide +kernel
theorem dX11_clears_5 : decode cX11_clears 5 = .ok (.iconst 0, 1) := by decide +kernel
theorem dX11_clears_6 : decode cX11_clears 6 = .ok (.istore_n 1, 1) := by decide +kernel
theorem dX11_clears_7 : decode cX11_clears 7 = .ok (.iload_n 1, 1) := by decide +kernel
theorem dX11_clears_8 : decode cX11_clears 8 = .ok (.sipush 1024, 3) := by decide +kernel
theorem dX11_clears_11 : decode cX11_clears 11 = .ok (.if_icmp .ge 16, 3) := by decide +kernel
theorem dX11_clears_14 : decode cX11_clears 14 = .ok (.aload_n 0, 1) := by decide +kernel
theorem dX11_clears_15 : decode cX11_clears 15 = .ok (.getfield 26, 3) := by decide +kernel
theorem dX11_clears_18 : decode cX11_clears 18 = .ok (.iload_n 1, 1) := by decide +kernel
theorem dX11_clears_19 : decode cX11_clears 19 = .ok (.iconst (-1), 1) := by decide +kernel
theorem dX11_clears_20 : decode cX11_clears 20 = .ok (.iastore, 1) := by decide +kernel
theorem dX11_clears_21 : decode cX11_clears 21 = .ok (.iinc 1 1, 3) := by decide +kernel
theorem dX11_clears_24 : decode cX11_clears 24 = .ok (.goto (-17), 3) := by decide +kernel
theorem dX11_clears_27 : decode cX11_clears 27 = .ok (.return_, 1) := by decide +kernel
theorem dX11_formula_0 : decode cX11_formula 0 = .ok (.iload_n 1, 1) := by decide +kernel
theorem dX11_formula_1 : decode cX11_formula 1 = .ok (.bipush 31, 2) := by decide +kernel
theorem dX11_formula_3 : decode cX11_formula 3 = .ok (.iload_n 2, 1) := by decide +kernel
theorem dX11_formula_4 : decode cX11_formula 4 = .ok (.imul, 1) := by decide +kernel
theorem dX11_formula_5 : decode cX11_formula 5 = .ok (.iadd, 1) := by decide +kernel
theorem dX11_formula_6 : decode cX11_formula 6 = .ok (.sipush 577, 3) := by decide +kernel
theorem dX11_formula_9 : decode cX11_formula 9 = .ok (.iload_n 3, 1) := by decide +kernel
theorem dX11_formula_10 : decode cX11_formula 10 = .ok (.imul, 1) := by decide +kernel
theorem dX11_formula_11 : decode cX11_formula 11 = .ok (.iadd, 1) := by decide +kernel
theorem dX11_formula_12 : decode cX11_formula 12 = .ok (.sipush 1023, 3) := by decide +kernel
theorem dX11_formula_15 : decode cX11_formula 15 = .ok (.iand, 1) := by decide +kernel
theorem dX11_formula_16 : decode cX11_formula 16 = .ok (.istore 4, 2) := by decide +kernel
theorem dX11_formula_18 : decode cX11_formula 18 = .ok (.aload_n 0, 1) := by decide +kernel
theorem dX11_formula_19 : decode cX11_formula 19 = .ok (.getfield 26, 3) := by decide +kernel
theorem dX11_formula_22 : decode cX11_formula 22 = .ok (.iload 4, 2) := by decide +kernel
theorem dX11_formula_24 : decode cX11_formula 24 = .ok (.iaload, 1) := by decide +kernel
theorem dX11_formula_25 : decode cX11_formula 25 = .ok (.istore 5, 2) := by decide +kernel
theorem dX11_formula_27 : decode cX11_formula 27 = .ok (.iload 5, 2) := by decide +kernel
theorem dX11_formula_29 : decode cX11_formula 29 = .ok (.iconst (-1), 1) := by decide +kernel
theorem dX11_formula_30 : decode cX11_formula 30 = .ok (.if_icmp .eq 51, 3) := by decide +kernel
theorem dX11_formula_33 : decode cX11_formula 33 = .ok (.aload_n 0, 1) := by decide +kernel
theorem dX11_formula_34 : decode cX11_formula 34 = .ok (.getfield 13, 3) := by decide +kernel
theorem dX11_formula_37 : decode cX11_formula 37 = .ok (.iload 5, 2) := by decide +kernel
theorem dX11_formula_39 : decode cX11_formula 39 = .ok (.iaload, 1) := by decide +kernel
theorem dX11_formula_40 : decode cX11_formula 40 = .ok (.iload_n 1, 1) := by decide +kernel
theorem dX11_formula_41 : decode cX11_formula 41 = .ok (.if_icmp .ne 28, 3) := by decide +kernel
theorem dX11_formula_44 : decode cX11_formula 44 = .ok (.aload_n 0, 1) := by decide +kernel
theorem dX11_formula_45 : decode cX11_formula 45 = .ok (.getfield 17, 3) := by decide +kernel
theorem dX11_formula_48 : decode cX11_formula 48 = .ok (.iload 5, 2) := by decide +kernel
theorem dX11_formula_50 : decode cX11_formula 50 = .ok (.iaload, 1) := by decide +kernel
theorem dX11_formula_51 : decode cX11_formula 51 = .ok (.iload_n 2, 1) := by decide +kernel
theorem dX11_formula_52 : decode cX11_formula 52 = .ok (.if_icmp .ne 17, 3) := by decide +kernel
theorem dX11_formula_55 : decode cX11_formula 55 = .ok (.aload_n 0, 1) := by decide +kernel
theorem dX11_formula_56 : decode cX11_formula 56 = .ok (.getfield 20, 3) := by decide +kernel
theorem dX11_formula_59 : decode cX11_formula 59 = .ok (.iload 5, 2) := by decide +kernel
theorem dX11_formula_61 : decode cX11_formula 61 = .ok (.iaload, 1) := by decide +kernel
theorem dX11_formula_62 : decode cX11_formula 62 = .ok (.iload_n 3, 1) := by decide +kernel
theorem dX11_formula_63 : decode cX11_formula 63 = .ok (.if_icmp .ne 6, 3) := by decide +kernel
theorem dX11_formula_66 : decode cX11_formula 66 = .ok (.iload 5, 2) := by decide +kernel
theorem dX11_formula_68 : decode cX11_formula 68 = .ok (.ireturn, 1) := by decide +kernel
theorem dX11_formula_69 : decode cX11_formula 69 = .ok (.aload_n 0, 1) := by decide +kernel
theorem dX11_formula_70 : decode cX11_formula 70 = .ok (.getfield 23, 3) := by decide +kernel
theorem dX11_formula_73 : decode cX11_formula 73 = .ok (.iload 5, 2) := by decide +kernel
theorem dX11_formula_75 : decode cX11_formula 75 = .ok (.iaload, 1) := by decide +kernel
theorem dX11_formula_76 : decode cX11_formula 76 = .ok (.istore 5, 2) := by decide +kernel
theorem dX11_formula_78 : decode cX11_formula 78 = .ok (.goto (-51), 3) := by decide +kernel
theorem dX11_formula_81 : decode cX11_formula 81 = .ok (.aload_n 0, 1) := by decide +kernel
theorem dX11_formula_82 : decode cX11_formula 82 = .ok (.getfield 13, 3) := by decide +kernel
theorem dX11_formula_85 : decode cX11_formula 85 = .ok (.aload_n 0, 1) := by decide +kernel
theorem dX11_formula_86 : decode cX11_formula 86 = .ok (.getfield 137, 3) := by decide +kernel
theorem dX11_formula_89 : decode cX11_formula 89 = .ok (.iload_n 1, 1) := by decide +kernel
theorem dX11_formula_90 : decode cX11_formula 90 = .ok (.iastore, 1) := by decide +kernel
theorem dX11_formula_91 : decode cX11_formula 91 = .ok (.aload_n 0, 1) := by decide +kernel
theorem dX11_formula_92 : decode cX11_formula 92 = .ok (.getfield 17, 3) := by decide +kernel
theorem dX11_formula_95 : decode cX11_formula 95 = .ok (.aload_n 0, 1) := by decide +kernel
theorem dX11_formula_96 : decode cX11_formula 96 = .ok (.getfield 137, 3) := by decide +kernel
theorem dX11_formula_99 : decode cX11_formula 99 = .ok (.iload_n 2, 1) := by decide +kernel
theorem dX11_formula_100 : decode cX11_formula 100 = .ok (.iastore, 1) := by decide +kernel
theorem dX11_formula_101 : decode cX11_formula 101 = .ok (.aload_n 0, 1) := by decide +kernel
theorem dX11_formula_102 : decode cX11_formula 102 = .ok (.getfield 20, 3) := by decide +kernel
theorem dX11_formula_105 : decode cX11_formula 105 = .ok (.aload_n 0, 1) := by decide +kernel
theorem dX11_formula_106 : decode cX11_formula 106 = .ok (.getfield 137, 3) := by decide +kernel
theorem dX11_formula_109 : decode cX11_formula 109 = .ok (.iload_n 3, 1) := by decide +kernel
theorem dX11_formula_110 : decode cX11_formula 110 = .ok (.iastore, 1) := by decide +kernel
theorem dX11_formula_111 : decode cX11_formula 111 = .ok (.aload_n 0, 1) := by decide +kernel
theorem dX11_formula_112 : decode cX11_formula 112 = .ok (.getfield 23, 3) := by decide +kernel
theorem dX11_formula_115 : decode cX11_formula 115 = .ok (.aload_n 0, 1) := by decide +kernel
theorem dX11_formula_116 : decode cX11_formula 116 = .ok (.getfield 137, 3) := by decide +kernel
theorem dX11_formula_119 : decode cX11_formula 119 = .ok (.aload_n 0, 1) := by decide +kernel
theorem dX11_formula_120 : decode cX11_formula 120 = .ok (.getfield 26, 3) := by decide +kernel
theorem dX11_formula_123 : decode cX11_formula 123 = .ok (.iload 4, 2) := by decide +kernel
theorem dX11_formula_125 : decode cX11_formula 125 = .ok (.iaload, 1) := by decide +kernel
theorem dX11_formula_126 : decode cX11_formula 126 = .ok (.iastore, 1) := by decide +kernel
theorem dX11_formula_127 : decode cX11_formula 127 = .ok (.aload_n 0, 1) := by decide +kernel
theorem dX11_formula_128 : decode cX11_formula 128 = .ok (.getfield 26, 3) := by decide +kernel
theorem dX11_formula_131 : decode cX11_formula 131 = .ok (.iload 4, 2) := by decide +kernel
theorem dX11_formula_133 : decode cX11_formula 133 = .ok (.aload_n 0, 1) := by decide +kernel
theorem dX11_formula_134 : decode cX11_formula 134 = .ok (.getfield 137, 3) := by decide +kernel
theorem dX11_formula_137 : decode cX11_formula 137 = .ok (.iastore, 1) := by decide +kernel
theorem dX11_formula_138 : decode cX11_formula 138 = .ok (.aload_n 0, 1) := by decide +kernel
theorem dX11_formula_139 : decode cX11_formula 139 = .ok (.dup, 1) := by decide +kernel
theorem dX11_formula_140 : decode cX11_formula 140 = .ok (.getfield 137, 3) := by decide +kernel
theorem dX11_formula_143 : decode cX11_formula 143 = .ok (.iconst 1, 1) := by decide +kernel
theorem dX11_formula_144 : decode cX11_formula 144 = .ok (.iadd, 1) := by decide +kernel
theorem dX11_formula_145 : decode cX11_formula 145 = .ok (.putfield 137, 3) := by decide +kernel
theorem dX11_formula_148 : decode cX11_formula 148 = .ok (.aload_n 0, 1) := by decide +kernel
theorem dX11_formula_149 : decode cX11_formula 149 = .ok (.getfield 137, 3) := by decide +kernel
theorem dX11_formula_152 : decode cX11_formula 152 = .ok (.iconst 1, 1) := by decide +kernel
theorem dX11_formula_153 : decode cX11_formula 153 = .ok (.isub, 1) := by decide +kernel
theorem dX11_formula_154 : decode cX11_formula 154 = .ok (.ireturn, 1) := by decide +kernel
theorem dX11_tidies_0 : decode cX11_tidies 0 = .ok (.aload_n 0, 1) := by decide +kernel
theorem dX11_tidies_1 : decode cX11_tidies 1 = .ok (.getfield 140, 3) := by decide +kernel
theorem dX11_tidies_4 : decode cX11_tidies 4 = .ok (.ifCond .ne 13, 3) := by decide +kernel
theorem dX11_tidies_7 : decode cX11_tidies 7 = .ok (.aload_n 0, 1) := by decide +kernel
theorem dX11_tidies_8 : decode cX11_tidies 8 = .ok (.getfield 137, 3) := by decide +kernel
theorem dX11_tidies_11 : decode cX11_tidies 11 = .ok (.sipush 8192, 3) := by decide +kernel
theorem dX11_tidies_14 : decode cX11_tidies 14 = .ok (.if_icmp .ge 4, 3) := by decide +kernel
theorem dX11_tidies_17 : decode cX11_tidies 17 = .ok (.return_, 1) := by decide +kernel
theorem dX11_tidies_18 : decode cX11_tidies 18 = .ok (.iconst 0, 1) := by decide +kernel
theorem dX11_tidies_19 : decode cX11_tidies 19 = .ok (.istore_n 1, 1) := by decide +kernel
theorem dX11_tidies_20 : decode cX11_tidies 20 = .ok (.iload_n 1, 1) := by decide +kernel
theorem dX11_tidies_21 : decode cX11_tidies 21 = .ok (.aload_n 0, 1) := by decide +kernel
theorem dX11_tidies_22 : decode cX11_tidies 22 = .ok (.getfield 137, 3) := by decide +kernel
theorem dX11_tidies_25 : decode cX11_tidies 25 = .ok (.if_icmp .ge 16, 3) := by decide +kernel
theorem dX11_tidies_28 : decode cX11_tidies 28 = .ok (.aload_n 0, 1) := by decide +kernel
theorem dX11_tidies_29 : decode cX11_tidies 29 = .ok (.getfield 29, 3) := by decide +kernel
theorem dX11_tidies_32 : decode cX11_tidies 32 = .ok (.iload_n 1, 1) := by decide +kernel
theorem dX11_tidies_33 : decode cX11_tidies 33 = .ok (.iconst (-1), 1) := by decide +kernel
theorem dX11_tidies_34 : decode cX11_tidies 34 = .ok (.iastore, 1) := by decide +kernel
theorem dX11_tidies_35 : decode cX11_tidies 35 = .ok (.iinc 1 1, 3) := by decide +kernel
theorem dX11_tidies_38 : decode cX11_tidies 38 = .ok (.goto (-18), 3) := by decide +kernel
theorem dX11_tidies_41 : decode cX11_tidies 41 = .ok (.iconst 0, 1) := by decide +kernel
theorem dX11_tidies_42 : decode cX11_tidies 42 = .ok (.istore_n 1, 1) := by decide +kernel
theorem dX11_tidies_43 : decode cX11_tidies 43 = .ok (.iload_n 1, 1) := by decide +kernel
theorem dX11_tidies_44 : decode cX11_tidies 44 = .ok (.aload_n 0, 1) := by decide +kernel
theorem dX11_tidies_45 : decode cX11_tidies 45 = .ok (.getfield 144, 3) := by decide +kernel
theorem dX11_tidies_48 : decode cX11_tidies 48 = .ok (.if_icmp .ge 19, 3) := by decide +kernel
theorem dX11_tidies_51 : decode cX11_tidies 51 = .ok (.aload_n 0, 1) := by decide +kernel
theorem dX11_tidies_52 : decode cX11_tidies 52 = .ok (.aload_n 0, 1) := by decide +kernel
theorem dX11_tidies_53 : decode cX11_tidies 53 = .ok (.getfield 38, 3) := by decide +kernel
theorem dX11_tidies_56 : decode cX11_tidies 56 = .ok (.iload_n 1, 1) := by decide +kernel
theorem dX11_tidies_57 : decode cX11_tidies 57 = .ok (.iaload, 1) := by decide +kernel
theorem dX11_tidies_58 : decode cX11_tidies 58 = .ok (.invokevirtual 147, 3) := by decide +kernel
theorem dX11_tidies_61 : decode cX11_tidies 61 = .ok (.iinc 1 1, 3) := by decide +kernel
theorem dX11_tidies_64 : decode cX11_tidies 64 = .ok (.goto (-21), 3) := by decide +kernel
theorem dX11_tidies_67 : decode cX11_tidies 67 = .ok (.aload_n 0, 1) := by decide +kernel
theorem dX11_tidies_68 : decode cX11_tidies 68 = .ok (.aload_n 0, 1) := by decide +kernel
theorem dX11_tidies_69 : decode cX11_tidies 69 = .ok (.getfield 134, 3) := by decide +kernel
theorem dX11_tidies_72 : decode cX11_tidies 72 = .ok (.invokevirtual 147, 3) := by decide +kernel
theorem dX11_tidies_75 : decode cX11_tidies 75 = .ok (.iconst 0, 1) := by decide +kernel
theorem dX11_tidies_76 : decode cX11_tidies 76 = .ok (.istore_n 1, 1) := by decide +kernel
theorem dX11_tidies_77 : decode cX11_tidies 77 = .ok (.iload_n 1, 1) := by decide +kernel
theorem dX11_tidies_78 : decode cX11_tidies 78 = .ok (.iconst 4, 1) := by decide +kernel
theorem dX11_tidies_79 : decode cX11_tidies 79 = .ok (.if_icmp .ge 73, 3) := by decide +kernel
theorem dX11_tidies_82 : decode cX11_tidies 82 = .ok (.iconst 0, 1) := by decide +kernel
theorem dX11_tidies_83 : decode cX11_tidies 83 = .ok (.istore_n 2, 1) := by decide +kernel
theorem dX11_tidies_84 : decode cX11_tidies 84 = .ok (.iload_n 2, 1) := by decide +kernel
theorem dX11_tidies_85 : decode cX11_tidies 85 = .ok (.aload_n 0, 1) := by decide +kernel
theorem dX11_tidies_86 : decode cX11_tidies 86 = .ok (.getfield 56, 3) := by decide +kernel
theorem dX11_tidies_89 : decode cX11_tidies 89 = .ok (.iload_n 1, 1) := by decide +kernel
theorem dX11_tidies_90 : decode cX11_tidies 90 = .ok (.iaload, 1) := by decide +kernel
theorem dX11_tidies_91 : decode cX11_tidies 91 = .ok (.if_icmp .ge 55, 3) := by decide +kernel
theorem dX11_tidies_94 : decode cX11_tidies 94 = .ok (.aload_n 0, 1) := by decide +kernel
theorem dX11_tidies_95 : decode cX11_tidies 95 = .ok (.getfield 50, 3) := by decide +kernel
theorem dX11_tidies_98 : decode cX11_tidies 98 = .ok (.sipush 200, 3) := by decide +kernel
theorem dX11_tidies_101 : decode cX11_tidies 101 = .ok (.iload_n 1, 1) := by decide +kernel
theorem dX11_tidies_102 : decode cX11_tidies 102 = .ok (.imul, 1) := by decide +kernel
theorem dX11_tidies_103 : decode cX11_tidies 103 = .ok (.iload_n 2, 1) := by decide +kernel
theorem dX11_tidies_104 : decode cX11_tidies 104 = .ok (.iadd, 1) := by decide +kernel
theorem dX11_tidies_105 : decode cX11_tidies 105 = .ok (.iaload, 1) := by decide +kernel
theorem dX11_tidies_106 : decode cX11_tidies 106 = .ok (.ifCond .eq 34, 3) := by decide +kernel
theorem dX11_tidies_109 : decode cX11_tidies 109 = .ok (.aload_n 0, 1) := by decide +kernel
theorem dX11_tidies_110 : decode cX11_tidies 110 = .ok (.getfield 53, 3) := by decide +kernel
theorem dX11_tidies_113 : decode cX11_tidies 113 = .ok (.sipush 200, 3) := by decide +kernel
theorem dX11_tidies_116 : decode cX11_tidies 116 = .ok (.iload_n 1, 1) := by decide +kernel
theorem dX11_tidies_117 : decode cX11_tidies 117 = .ok (.imul, 1) := by decide +kernel
theorem dX11_tidies_118 : decode cX11_tidies 118 = .ok (.iload_n 2, 1) := by decide +kernel
theorem dX11_tidies_119 : decode cX11_tidies 119 = .ok (.iadd, 1) := by decide +kernel
theorem dX11_tidies_120 : decode cX11_tidies 120 = .ok (.iaload, 1) := by decide +kernel
theorem dX11_tidies_121 : decode cX11_tidies 121 = .ok (.ifCond .lt 19, 3) := by decide +kernel
theorem dX11_tidies_124 : decode cX11_tidies 124 = .ok (.aload_n 0, 1) := by decide +kernel
theorem dX11_tidies_125 : decode cX11_tidies 125 = .ok (.aload_n 0, 1) := by decide +kernel
theorem dX11_tidies_126 : decode cX11_tidies 126 = .ok (.getfield 53, 3) := by decide +kernel
theorem dX11_tidies_129 : decode cX11_tidies 129 = .ok (.sipush 200, 3) := by decide +kernel
theorem dX11_tidies_132 : decode cX11_tidies 132 = .ok (.iload_n 1, 1) := by decide +kernel
theorem dX11_tidies_133 : decode cX11_tidies 133 = .ok (.imul, 1) := by decide +kernel
theorem dX11_tidies_134 : decode cX11_tidies 134 = .ok (.iload_n 2, 1) := by decide +kernel
theorem dX11_tidies_135 : decode cX11_tidies 135 = .ok (.iadd, 1) := by decide +kernel
theorem dX11_tidies_136 : decode cX11_tidies 136 = .ok (.iaload, 1) := by decide +kernel
theorem dX11_tidies_137 : decode cX11_tidies 137 = .ok (.invokevirtual 147, 3) := by decide +kernel
theorem dX11_tidies_140 : decode cX11_tidies 140 = .ok (.iinc 2 1, 3) := by decide +kernel
theorem dX11_tidies_143 : decode cX11_tidies 143 = .ok (.goto (-59), 3) := by decide +kernel
theorem dX11_tidies_146 : decode cX11_tidies 146 = .ok (.iinc 1 1, 3) := by decide +kernel
theorem dX11_tidies_149 : decode cX11_tidies 149 = .ok (.goto (-72), 3) := by decide +kernel
theorem dX11_tidies_152 : decode cX11_tidies 152 = .ok (.iconst 0, 1) := by decide +kernel
theorem dX11_tidies_153 : decode cX11_tidies 153 = .ok (.istore_n 1, 1) := by decide +kernel
theorem dX11_tidies_154 : decode cX11_tidies 154 = .ok (.iload_n 1, 1) := by decide +kernel
theorem dX11_tidies_155 : decode cX11_tidies 155 = .ok (.aload_n 0, 1) := by decide +kernel
theorem dX11_tidies_156 : decode cX11_tidies 156 = .ok (.getfield 151, 3) := by decide +kernel
theorem dX11_tidies_159 : decode cX11_tidies 159 = .ok (.if_icmp .ge 37, 3) := by decide +kernel
theorem dX11_tidies_162 : decode cX11_tidies 162 = .ok (.aload_n 0, 1) := by decide +kernel
theorem dX11_tidies_163 : decode cX11_tidies 163 = .ok (.getfield 59, 3) := by decide +kernel
theorem dX11_tidies_166 : decode cX11_tidies 166 = .ok (.iload_n 1, 1) := by decide +kernel
theorem dX11_tidies_167 : decode cX11_tidies 167 = .ok (.iaload, 1) := by decide +kernel
theorem dX11_tidies_168 : decode cX11_tidies 168 = .ok (.ifCond .eq 22, 3) := by decide +kernel
theorem dX11_tidies_171 : decode cX11_tidies 171 = .ok (.aload_n 0, 1) := by decide +kernel
theorem dX11_tidies_172 : decode cX11_tidies 172 = .ok (.getfield 62, 3) := by decide +kernel
theorem dX11_tidies_175 : decode cX11_tidies 175 = .ok (.iload_n 1, 1) := by decide +kernel
theorem dX11_tidies_176 : decode cX11_tidies 176 = .ok (.iaload, 1) := by decide +kernel
theorem dX11_tidies_177 : decode cX11_tidies 177 = .ok (.ifCond .lt 13, 3) := by decide +kernel
theorem dX11_tidies_180 : decode cX11_tidies 180 = .ok (.aload_n 0, 1) := by decide +kernel
theorem dX11_tidies_181 : decode cX11_tidies 181 = .ok (.aload_n 0, 1) := by decide +kernel
theorem dX11_tidies_182 : decode cX11_tidies 182 = .ok (.getfield 62, 3) := by decide +kernel
theorem dX11_tidies_185 : decode cX11_tidies 185 = .ok (.iload_n 1, 1) := by decide +kernel
theorem dX11_tidies_186 : decode cX11_tidies 186 = .ok (.iaload, 1) := by decide +kernel
theorem dX11_tidies_187 : decode cX11_tidies 187 = .ok (.invokevirtual 147, 3) := by decide +kernel
theorem dX11_tidies_190 : decode cX11_tidies 190 = .ok (.iinc 1 1, 3) := by decide +kernel
theorem dX11_tidies_193 : decode cX11_tidies 193 = .ok (.goto (-39), 3) := by decide +kernel
theorem dX11_tidies_196 : decode cX11_tidies 196 = .ok (.aload_n 0, 1) := by decide +kernel
theorem dX11_tidies_197 : decode cX11_tidies 197 = .ok (.getfield 137, 3) := by decide +kernel
theorem dX11_tidies_200 : decode cX11_tidies 200 = .ok (.istore_n 1, 1) := by decide +kernel
theorem dX11_tidies_201 : decode cX11_tidies 201 = .ok (.aload_n 0, 1) := by decide +kernel
theorem dX11_tidies_202 : decode cX11_tidies 202 = .ok (.invokevirtual 127, 3) := by decide +kernel
theorem dX11_tidies_205 : decode cX11_tidies 205 = .ok (.iconst 0, 1) := by decide +kernel
theorem dX11_tidies_206 : decode cX11_tidies 206 = .ok (.istore_n 2, 1) := by decide +kernel
theorem dX11_tidies_207 : decode cX11_tidies 207 = .ok (.iload_n 2, 1) := by decide +kernel
theorem dX11_tidies_208 : decode cX11_tidies 208 = .ok (.iload_n 1, 1) := by decide +kernel
theorem dX11_tidies_209 : decode cX11_tidies 209 = .ok (.if_icmp .ge 85, 3) := by decide +kernel
theorem dX11_tidies_212 : decode cX11_tidies 212 = .ok (.aload_n 0, 1) := by decide +kernel
theorem dX11_tidies_213 : decode cX11_tidies 213 = .ok (.getfield 29, 3) := by decide +kernel
theorem dX11_tidies_216 : decode cX11_tidies 216 = .ok (.iload_n 2, 1) := by decide +kernel
theorem dX11_tidies_217 : decode cX11_tidies 217 = .ok (.iaload, 1) := by decide +kernel
theorem dX11_tidies_218 : decode cX11_tidies 218 = .ok (.iconst (-1), 1) := by decide +kernel
theorem dX11_tidies_219 : decode cX11_tidies 219 = .ok (.if_icmp .eq 69, 3) := by decide +kernel
theorem dX11_tidies_222 : decode cX11_tidies 222 = .ok (.aload_n 0, 1) := by decide +kernel
theorem dX11_tidies_223 : decode cX11_tidies 223 = .ok (.getfield 29, 3) := by decide +kernel
theorem dX11_tidies_226 : decode cX11_tidies 226 = .ok (.iload_n 2, 1) := by decide +kernel
theorem dX11_tidies_227 : decode cX11_tidies 227 = .ok (.aload_n 0, 1) := by decide +kernel
theorem dX11_tidies_228 : decode cX11_tidies 228 = .ok (.aload_n 0, 1) := by decide +kernel
theorem dX11_tidies_229 : decode cX11_tidies 229 = .ok (.getfield 13, 3) := by decide +kernel
theorem dX11_tidies_232 : decode cX11_tidies 232 = .ok (.iload_n 2, 1) := by decide +kernel
theorem dX11_tidies_233 : decode cX11_tidies 233 = .ok (.iaload, 1) := by decide +kernel
theorem dX11_tidies_234 : decode cX11_tidies 234 = .ok (.aload_n 0, 1) := by decide +kernel
theorem dX11_tidies_235 : decode cX11_tidies 235 = .ok (.getfield 17, 3) := by decide +kernel
theorem dX11_tidies_238 : decode cX11_tidies 238 = .ok (.iload_n 2, 1) := by decide +kernel
theorem dX11_tidies_239 : decode cX11_tidies 239 = .ok (.iaload, 1) := by decide +kernel
theorem dX11_tidies_240 : decode cX11_tidies 240 = .ok (.iconst (-1), 1) := by decide +kernel
theorem dX11_tidies_241 : decode cX11_tidies 241 = .ok (.if_icmp .ne 7, 3) := by decide +kernel
theorem dX11_tidies_244 : decode cX11_tidies 244 = .ok (.iconst (-1), 1) := by decide +kernel
theorem dX11_tidies_245 : decode cX11_tidies 245 = .ok (.goto 14, 3) := by decide +kernel
theorem dX11_tidies_248 : decode cX11_tidies 248 = .ok (.aload_n 0, 1) := by decide +kernel
theorem dX11_tidies_249 : decode cX11_tidies 249 = .ok (.getfield 29, 3) := by decide +kernel
theorem dX11_tidies_252 : decode cX11_tidies 252 = .ok (.aload_n 0, 1) := by decide +kernel
theorem dX11_tidies_253 : decode cX11_tidies 253 = .ok (.getfield 17, 3) := by decide +kernel
theorem dX11_tidies_256 : decode cX11_tidies 256 = .ok (.iload_n 2, 1) := by decide +kernel
theorem dX11_tidies_257 : decode cX11_tidies 257 = .ok (.iaload, 1) := by decide +kernel
theorem dX11_tidies_258 : decode cX11_tidies 258 = .ok (.iaload, 1) := by decide +kernel
theorem dX11_tidies_259 : decode cX11_tidies 259 = .ok (.aload_n 0, 1) := by decide +kernel
theorem dX11_tidies_260 : decode cX11_tidies 260 = .ok (.getfield 20, 3) := by decide +kernel
theorem dX11_tidies_263 : decode cX11_tidies 263 = .ok (.iload_n 2, 1) := by decide +kernel
theorem dX11_tidies_264 : decode cX11_tidies 264 = .ok (.iaload, 1) := by decide +kernel
theorem dX11_tidies_265 : decode cX11_tidies 265 = .ok (.iconst (-1), 1) := by decide +kernel
theorem dX11_tidies_266 : decode cX11_tidies 266 = .ok (.if_icmp .ne 7, 3) := by decide +kernel
theorem dX11_tidies_269 : decode cX11_tidies 269 = .ok (.iconst (-1), 1) := by decide +kernel
theorem dX11_tidies_270 : decode cX11_tidies 270 = .ok (.goto 14, 3) := by decide +kernel
theorem dX11_tidies_273 : decode cX11_tidies 273 = .ok (.aload_n 0, 1) := by decide +kernel
theorem dX11_tidies_274 : decode cX11_tidies 274 = .ok (.getfield 29, 3) := by decide +kernel
theorem dX11_tidies_277 : decode cX11_tidies 277 = .ok (.aload_n 0, 1) := by decide +kernel
theorem dX11_tidies_278 : decode cX11_tidies 278 = .ok (.getfield 20, 3) := by decide +kernel
theorem dX11_tidies_281 : decode cX11_tidies 281 = .ok (.iload_n 2, 1) := by decide +kernel
theorem dX11_tidies_282 : decode cX11_tidies 282 = .ok (.iaload, 1) := by decide +kernel
theorem dX11_tidies_283 : decode cX11_tidies 283 = .ok (.iaload, 1) := by decide +kernel
theorem dX11_tidies_284 : decode cX11_tidies 284 = .ok (.invokevirtual 130, 3) := by decide +kernel
theorem dX11_tidies_287 : decode cX11_tidies 287 = .ok (.iastore, 1) := by decide +kernel
theorem dX11_tidies_288 : decode cX11_tidies 288 = .ok (.iinc 2 1, 3) := by decide +kernel
theorem dX11_tidies_291 : decode cX11_tidies 291 = .ok (.goto (-84), 3) := by decide +kernel
theorem dX11_tidies_294 : decode cX11_tidies 294 = .ok (.iconst 0, 1) := by decide +kernel
theorem dX11_tidies_295 : decode cX11_tidies 295 = .ok (.istore_n 2, 1) := by decide +kernel
theorem dX11_tidies_296 : decode cX11_tidies 296 = .ok (.iload_n 2, 1) := by decide +kernel
theorem dX11_tidies_297 : decode cX11_tidies 297 = .ok (.aload_n 0, 1) := by decide +kernel
theorem dX11_tidies_298 : decode cX11_tidies 298 = .ok (.getfield 144, 3) := by decide +kernel
theorem dX11_tidies_301 : decode cX11_tidies 301 = .ok (.if_icmp .ge 26, 3) := by decide +kernel
theorem dX11_tidies_304 : decode cX11_tidies 304 = .ok (.aload_n 0, 1) := by decide +kernel
theorem dX11_tidies_305 : decode cX11_tidies 305 = .ok (.getfield 38, 3) := by decide +kernel
theorem dX11_tidies_308 : decode cX11_tidies 308 = .ok (.iload_n 2, 1) := by decide +kernel
theorem dX11_tidies_309 : decode cX11_tidies 309 = .ok (.aload_n 0, 1) := by decide +kernel
theorem dX11_tidies_310 : decode cX11_tidies 310 = .ok (.getfield 29, 3) := by decide +kernel
theorem dX11_tidies_313 : decode cX11_tidies 313 = .ok (.aload_n 0, 1) := by decide +kernel
theorem dX11_tidies_314 : decode cX11_tidies 314 = .ok (.getfield 38, 3) := by decide +kernel
theorem dX11_tidies_317 : decode cX11_tidies 317 = .ok (.iload_n 2, 1) := by decide +kernel
theorem dX11_tidies_318 : decode cX11_tidies 318 = .ok (.iaload, 1) := by decide +kernel
theorem dX11_tidies_319 : decode cX11_tidies 319 = .ok (.iaload, 1) := by decide +kernel
theorem dX11_tidies_320 : decode cX11_tidies 320 = .ok (.iastore, 1) := by decide +kernel
theorem dX11_tidies_321 : decode cX11_tidies 321 = .ok (.iinc 2 1, 3) := by decide +kernel
theorem dX11_tidies_324 : decode cX11_tidies 324 = .ok (.goto (-28), 3) := by decide +kernel
theorem dX11_tidies_327 : decode cX11_tidies 327 = .ok (.aload_n 0, 1) := by decide +kernel
theorem dX11_tidies_328 : decode cX11_tidies 328 = .ok (.aload_n 0, 1) := by decide +kernel
theorem dX11_tidies_329 : decode cX11_tidies 329 = .ok (.getfield 29, 3) := by decide +kernel
theorem dX11_tidies_332 : decode cX11_tidies 332 = .ok (.aload_n 0, 1) := by decide +kernel
theorem dX11_tidies_333 : decode cX11_tidies 333 = .ok (.getfield 134, 3) := by decide +kernel
theorem dX11_tidies_336 : decode cX11_tidies 336 = .ok (.iaload, 1) := by decide +kernel
theorem dX11_tidies_337 : decode cX11_tidies 337 = .ok (.putfield 134, 3) := by decide +kernel
theorem dX11_tidies_340 : decode cX11_tidies 340 = .ok (.iconst 0, 1) := by decide +kernel
theorem dX11_tidies_341 : decode cX11_tidies 341 = .ok (.istore_n 2, 1) := by decide +kernel
theorem dX11_tidies_342 : decode cX11_tidies 342 = .ok (.iload_n 2, 1) := by decide +kernel
theorem dX11_tidies_343 : decode cX11_tidies 343 = .ok (.iconst 4, 1) := by decide +kernel
theorem dX11_tidies_344 : decode cX11_tidies 344 = .ok (.if_icmp .ge 86, 3) := by decide +kernel
theorem dX11_tidies_347 : decode cX11_tidies 347 = .ok (.iconst 0, 1) := by decide +kernel
theorem dX11_tidies_348 : decode cX11_tidies 348 = .ok (.istore_n 3, 1) := by decide +kernel
theorem dX11_tidies_349 : decode cX11_tidies 349 = .ok (.iload_n 3, 1) := by decide +kernel
theorem dX11_tidies_350 : decode cX11_tidies 350 = .ok (.aload_n 0, 1) := by decide +kernel
theorem dX11_tidies_351 : decode cX11_tidies 351 = .ok (.getfield 56, 3) := by decide +kernel
theorem dX11_tidies_354 : decode cX11_tidies 354 = .ok (.iload_n 2, 1) := by decide +kernel
theorem dX11_tidies_355 : decode cX11_tidies 355 = .ok (.iaload, 1) := by decide +kernel
theorem dX11_tidies_356 : decode cX11_tidies 356 = .ok (.if_icmp .ge 68, 3) := by decide +kernel
theorem dX11_tidies_359 : decode cX11_tidies 359 = .ok (.aload_n 0, 1) := by decide +kernel
theorem dX11_tidies_360 : decode cX11_tidies 360 = .ok (.getfield 50, 3) := by decide +kernel
theorem dX11_tidies_363 : decode cX11_tidies 363 = .ok (.sipush 200, 3) := by decide +kernel
theorem dX11_tidies_366 : decode cX11_tidies 366 = .ok (.iload_n 2, 1) := by decide +kernel
theorem dX11_tidies_367 : decode cX11_tidies 367 = .ok (.imul, 1) := by decide +kernel
theorem dX11_tidies_368 : decode cX11_tidies 368 = .ok (.iload_n 3, 1) := by decide +kernel
theorem dX11_tidies_369 : decode cX11_tidies 369 = .ok (.iadd, 1) := by decide +kernel
theorem dX11_tidies_370 : decode cX11_tidies 370 = .ok (.iaload, 1) := by decide +kernel
theorem dX11_tidies_371 : decode cX11_tidies 371 = .ok (.ifCond .eq 47, 3) := by decide +kernel
theorem dX11_tidies_374 : decode cX11_tidies 374 = .ok (.aload_n 0, 1) := by decide +kernel
theorem dX11_tidies_375 : decode cX11_tidies 375 = .ok (.getfield 53, 3) := by decide +kernel
theorem dX11_tidies_378 : decode cX11_tidies 378 = .ok (.sipush 200, 3) := by decide +kernel
theorem dX11_tidies_381 : decode cX11_tidies 381 = .ok (.iload_n 2, 1) := by decide +kernel
theorem dX11_tidies_382 : decode cX11_tidies 382 = .ok (.imul, 1) := by decide +kernel
theorem dX11_tidies_383 : decode cX11_tidies 383 = .ok (.iload_n 3, 1) := by decide +kernel
theorem dX11_tidies_384 : decode cX11_tidies 384 = .ok (.iadd, 1) := by decide +kernel
theorem dX11_tidies_385 : decode cX11_tidies 385 = .ok (.iaload, 1) := by decide +kernel
theorem dX11_tidies_386 : decode cX11_tidies 386 = .ok (.ifCond .lt 32, 3) := by decide +kernel
theorem dX11_tidies_389 : decode cX11_tidies 389 = .ok (.aload_n 0, 1) := by decide +kernel
theorem dX11_tidies_390 : decode cX11_tidies 390 = .ok (.getfield 53, 3) := by decide +kernel
theorem dX11_tidies_393 : decode cX11_tidies 393 = .ok (.sipush 200, 3) := by decide +kernel
theorem dX11_tidies_396 : decode cX11_tidies 396 = .ok (.iload_n 2, 1) := by decide +kernel
theorem dX11_tidies_397 : decode cX11_tidies 397 = .ok (.imul, 1) := by decide +kernel
theorem dX11_tidies_398 : decode cX11_tidies 398 = .ok (.iload_n 3, 1) := by decide +kernel
theorem dX11_tidies_399 : decode cX11_tidies 399 = .ok (.iadd, 1) := by decide +kernel
theorem dX11_tidies_400 : decode cX11_tidies 400 = .ok (.aload_n 0, 1) := by decide +kernel
theorem dX11_tidies_401 : decode cX11_tidies 401 = .ok (.getfield 29, 3) := by decide +kernel
theorem dX11_tidies_404 : decode cX11_tidies 404 = .ok (.aload_n 0, 1) := by decide +kernel
theorem dX11_tidies_405 : decode cX11_tidies 405 = .ok (.getfield 53, 3) := by decide +kernel
theorem dX11_tidies_408 : decode cX11_tidies 408 = .ok (.sipush 200, 3) := by decide +kernel
theorem dX11_tidies_411 : decode cX11_tidies 411 = .ok (.iload_n 2, 1) := by decide +kernel
theorem dX11_tidies_412 : decode cX11_tidies 412 = .ok (.imul, 1) := by decide +kernel
theorem dX11_tidies_413 : decode cX11_tidies 413 = .ok (.iload_n 3, 1) := by decide +kernel
theorem dX11_tidies_414 : decode cX11_tidies 414 = .ok (.iadd, 1) := by decide +kernel
theorem dX11_tidies_415 : decode cX11_tidies 415 = .ok (.iaload, 1) := by decide +kernel
theorem dX11_tidies_416 : decode cX11_tidies 416 = .ok (.iaload, 1) := by decide +kernel
theorem dX11_tidies_417 : decode cX11_tidies 417 = .ok (.iastore, 1) := by decide +kernel
theorem dX11_tidies_418 : decode cX11_tidies 418 = .ok (.iinc 3 1, 3) := by decide +kernel
theorem dX11_tidies_421 : decode cX11_tidies 421 = .ok (.goto (-72), 3) := by decide +kernel
theorem dX11_tidies_424 : decode cX11_tidies 424 = .ok (.iinc 2 1, 3) := by decide +kernel
theorem dX11_tidies_427 : decode cX11_tidies 427 = .ok (.goto (-85), 3) := by decide +kernel
theorem dX11_tidies_430 : decode cX11_tidies 430 = .ok (.iconst 0, 1) := by decide +kernel
theorem dX11_tidies_431 : decode cX11_tidies 431 = .ok (.istore_n 2, 1) := by decide +kernel
theorem dX11_tidies_432 : decode cX11_tidies 432 = .ok (.iload_n 2, 1) := by decide +kernel
theorem dX11_tidies_433 : decode cX11_tidies 433 = .ok (.aload_n 0, 1) := by decide +kernel
theorem dX11_tidies_434 : decode cX11_tidies 434 = .ok (.getfield 151, 3) := by decide +kernel
theorem dX11_tidies_437 : decode cX11_tidies 437 = .ok (.if_icmp .ge 44, 3) := by decide +kernel
theorem dX11_tidies_440 : decode cX11_tidies 440 = .ok (.aload_n 0, 1) := by decide +kernel
theorem dX11_tidies_441 : decode cX11_tidies 441 = .ok (.getfield 59, 3) := by decide +kernel
theorem dX11_tidies_444 : decode cX11_tidies 444 = .ok (.iload_n 2, 1) := by decide +kernel
theorem dX11_tidies_445 : decode cX11_tidies 445 = .ok (.iaload, 1) := by decide +kernel
theorem dX11_tidies_446 : decode cX11_tidies 446 = .ok (.ifCond .eq 29, 3) := by decide +kernel
theorem dX11_tidies_449 : decode cX11_tidies 449 = .ok (.aload_n 0, 1) := by decide +kernel
theorem dX11_tidies_450 : decode cX11_tidies 450 = .ok (.getfield 62, 3) := by decide +kernel
theorem dX11_tidies_453 : decode cX11_tidies 453 = .ok (.iload_n 2, 1) := by decide +kernel
theorem dX11_tidies_454 : decode cX11_tidies 454 = .ok (.iaload, 1) := by decide +kernel
theorem dX11_tidies_455 : decode cX11_tidies 455 = .ok (.ifCond .lt 20, 3) := by decide +kernel
theorem dX11_tidies_458 : decode cX11_tidies 458 = .ok (.aload_n 0, 1) := by decide +kernel
theorem dX11_tidies_459 : decode cX11_tidies 459 = .ok (.getfield 62, 3) := by decide +kernel
theorem dX11_tidies_462 : decode cX11_tidies 462 = .ok (.iload_n 2, 1) := by decide +kernel
theorem dX11_tidies_463 : decode cX11_tidies 463 = .ok (.aload_n 0, 1) := by decide +kernel
theorem dX11_tidies_464 : decode cX11_tidies 464 = .ok (.getfield 29, 3) := by decide +kernel
theorem dX11_tidies_467 : decode cX11_tidies 467 = .ok (.aload_n 0, 1) := by decide +kernel
theorem dX11_tidies_468 : decode cX11_tidies 468 = .ok (.getfield 62, 3) := by decide +kernel
theorem dX11_tidies_471 : decode cX11_tidies 471 = .ok (.iload_n 2, 1) := by decide +kernel
theorem dX11_tidies_472 : decode cX11_tidies 472 = .ok (.iaload, 1) := by decide +kernel
theorem dX11_tidies_473 : decode cX11_tidies 473 = .ok (.iaload, 1) := by decide +kernel
theorem dX11_tidies_474 : decode cX11_tidies 474 = .ok (.iastore, 1) := by decide +kernel
theorem dX11_tidies_475 : decode cX11_tidies 475 = .ok (.iinc 2 1, 3) := by decide +kernel
theorem dX11_tidies_478 : decode cX11_tidies 478 = .ok (.goto (-46), 3) := by decide +kernel
theorem dX11_tidies_481 : decode cX11_tidies 481 = .ok (.return_, 1) := by decide +kernel
theorem dX11_marks_0 : decode cX11_marks 0 = .ok (.iload_n 1, 1) := by decide +kernel
theorem dX11_marks_1 : decode cX11_marks 1 = .ok (.iconst (-1), 1) := by decide +kernel
theorem dX11_marks_2 : decode cX11_marks 2 = .ok (.if_icmp .eq 13, 3) := by decide +kernel
theorem dX11_marks_5 : decode cX11_marks 5 = .ok (.aload_n 0, 1) := by decide +kernel
theorem dX11_marks_6 : decode cX11_marks 6 = .ok (.getfield 29, 3) := by decide +kernel
theorem dX11_marks_9 : decode cX11_marks 9 = .ok (.iload_n 1, 1) := by decide +kernel
theorem dX11_marks_10 : decode cX11_marks 10 = .ok (.iaload, 1) := by decide +kernel
theorem dX11_marks_11 : decode cX11_marks 11 = .ok (.iconst (-1), 1) := by decide +kernel
theorem dX11_marks_12 : decode cX11_marks 12 = .ok (.if_icmp .eq 4, 3) := by decide +kernel
theorem dX11_marks_15 : decode cX11_marks 15 = .ok (.return_, 1) := by decide +kernel
theorem dX11_marks_16 : decode cX11_marks 16 = .ok (.aload_n 0, 1) := by decide +kernel
theorem dX11_marks_17 : decode cX11_marks 17 = .ok (.getfield 29, 3) := by decide +kernel
theorem dX11_marks_20 : decode cX11_marks 20 = .ok (.iload_n 1, 1) := by decide +kernel
theorem dX11_marks_21 : decode cX11_marks 21 = .ok (.iconst 0, 1) := by decide +kernel
theorem dX11_marks_22 : decode cX11_marks 22 = .ok (.iastore, 1) := by decide +kernel
theorem dX11_marks_23 : decode cX11_marks 23 = .ok (.aload_n 0, 1) := by decide +kernel
theorem dX11_marks_24 : decode cX11_marks 24 = .ok (.aload_n 0, 1) := by decide +kernel
theorem dX11_marks_25 : decode cX11_marks 25 = .ok (.getfield 17, 3) := by decide +kernel
theorem dX11_marks_28 : decode cX11_marks 28 = .ok (.iload_n 1, 1) := by decide +kernel
theorem dX11_marks_29 : decode cX11_marks 29 = .ok (.iaload, 1) := by decide +kernel
theorem dX11_marks_30 : decode cX11_marks 30 = .ok (.invokevirtual 147, 3) := by decide +kernel
theorem dX11_marks_33 : decode cX11_marks 33 = .ok (.aload_n 0, 1) := by decide +kernel
theorem dX11_marks_34 : decode cX11_marks 34 = .ok (.aload_n 0, 1) := by decide +kernel
theorem dX11_marks_35 : decode cX11_marks 35 = .ok (.getfield 20, 3) := by decide +kernel
theorem dX11_marks_38 : decode cX11_marks 38 = .ok (.iload_n 1, 1) := by decide +kernel
theorem dX11_marks_39 : decode cX11_marks 39 = .ok (.iaload, 1) := by decide +kernel
theorem dX11_marks_40 : decode cX11_marks 40 = .ok (.invokevirtual 147, 3) := by decide +kernel
theorem dX11_marks_43 : decode cX11_marks 43 = .ok (.return_, 1) := by decide +kernel
theorem dX11_feed_0 : decode cX11_feed 0 = .ok (.aload_n 0, 1) := by decide +kernel
theorem dX11_feed_1 : decode cX11_feed 1 = .ok (.iconst 0, 1) := by decide +kernel
theorem dX11_feed_2 : decode cX11_feed 2 = .ok (.putfield 1, 3) := by decide +kernel
theorem dX11_feed_5 : decode cX11_feed 5 = .ok (.aload_n 0, 1) := by decide +kernel
theorem dX11_feed_6 : decode cX11_feed 6 = .ok (.getfield 154, 3) := by decide +kernel
theorem dX11_feed_9 : decode cX11_feed 9 = .ok (.bipush 20, 2) := by decide +kernel
theorem dX11_feed_11 : decode cX11_feed 11 = .ok (.iadd, 1) := by decide +kernel
theorem dX11_feed_12 : decode cX11_feed 12 = .ok (.sipush 600, 3) := by decide +kernel
theorem dX11_feed_15 : decode cX11_feed 15 = .ok (.if_icmp .le 6, 3) := by decide +kernel
theorem dX11_feed_18 : decode cX11_feed 18 = .ok (.bipush (-4), 2) := by decide +kernel
theorem dX11_feed_20 : decode cX11_feed 20 = .ok (.ireturn, 1) := by decide +kernel
theorem dX11_feed_21 : decode cX11_feed 21 = .ok (.iconst 0, 1) := by decide +kernel
theorem dX11_feed_22 : decode cX11_feed 22 = .ok (.istore 6, 2) := by decide +kernel
theorem dX11_feed_24 : decode cX11_feed 24 = .ok (.iload 6, 2) := by decide +kernel
theorem dX11_feed_26 : decode cX11_feed 26 = .ok (.bipush 20, 2) := by decide +kernel
theorem dX11_feed_28 : decode cX11_feed 28 = .ok (.if_icmp .ge 90, 3) := by decide +kernel
theorem dX11_feed_31 : decode cX11_feed 31 = .ok (.iload 6, 2) := by decide +kernel
theorem dX11_feed_33 : decode cX11_feed 33 = .ok (.iconst 4, 1) := by decide +kernel
theorem dX11_feed_34 : decode cX11_feed 34 = .ok (.if_icmp .ge 7, 3) := by decide +kernel
theorem dX11_feed_37 : decode cX11_feed 37 = .ok (.iload_n 1, 1) := by decide +kernel
theorem dX11_feed_38 : decode cX11_feed 38 = .ok (.goto 39, 3) := by decide +kernel
theorem dX11_feed_41 : decode cX11_feed 41 = .ok (.iload 6, 2) := by decide +kernel
theorem dX11_feed_43 : decode cX11_feed 43 = .ok (.bipush 8, 2) := by decide +kernel
theorem dX11_feed_45 : decode cX11_feed 45 = .ok (.if_icmp .ge 7, 3) := by decide +kernel
theorem dX11_feed_48 : decode cX11_feed 48 = .ok (.iload_n 2, 1) := by decide +kernel
theorem dX11_feed_49 : decode cX11_feed 49 = .ok (.goto 28, 3) := by decide +kernel
theorem dX11_feed_52 : decode cX11_feed 52 = .ok (.iload 6, 2) := by decide +kernel
theorem dX11_feed_54 : decode cX11_feed 54 = .ok (.bipush 12, 2) := by decide +kernel
theorem dX11_feed_56 : decode cX11_feed 56 = .ok (.if_icmp .ge 7, 3) := by decide +kernel
theorem dX11_feed_59 : decode cX11_feed 59 = .ok (.iload_n 3, 1) := by decide +kernel
theorem dX11_feed_60 : decode cX11_feed 60 = .ok (.goto 17, 3) := by decide +kernel
theorem dX11_feed_63 : decode cX11_feed 63 = .ok (.iload 6, 2) := by decide +kernel
theorem dX11_feed_65 : decode cX11_feed 65 = .ok (.bipush 16, 2) := by decide +kernel
theorem dX11_feed_67 : decode cX11_feed 67 = .ok (.if_icmp .ge 8, 3) := by decide +kernel
theorem dX11_feed_70 : decode cX11_feed 70 = .ok (.iload 4, 2) := by decide +kernel
theorem dX11_feed_72 : decode cX11_feed 72 = .ok (.goto 5, 3) := by decide +kernel
theorem dX11_feed_75 : decode cX11_feed 75 = .ok (.iload 5, 2) := by decide +kernel
theorem dX11_feed_77 : decode cX11_feed 77 = .ok (.istore 7, 2) := by decide +kernel
theorem dX11_feed_79 : decode cX11_feed 79 = .ok (.aload_n 0, 1) := by decide +kernel
theorem dX11_feed_80 : decode cX11_feed 80 = .ok (.getfield 71, 3) := by decide +kernel
theorem dX11_feed_83 : decode cX11_feed 83 = .ok (.aload_n 0, 1) := by decide +kernel
theorem dX11_feed_84 : decode cX11_feed 84 = .ok (.getfield 154, 3) := by decide +kernel
theorem dX11_feed_87 : decode cX11_feed 87 = .ok (.iload 7, 2) := by decide +kernel
theorem dX11_feed_89 : decode cX11_feed 89 = .ok (.bipush 24, 2) := by decide +kernel
theorem dX11_feed_91 : decode cX11_feed 91 = .ok (.bipush 8, 2) := by decide +kernel
theorem dX11_feed_93 : decode cX11_feed 93 = .ok (.iload 6, 2) := by decide +kernel
theorem dX11_feed_95 : decode cX11_feed 95 = .ok (.iconst 4, 1) := by decide +kernel
theorem dX11_feed_96 : decode cX11_feed 96 = .ok (.irem, 1) := by decide +kernel
theorem dX11_feed_97 : decode cX11_feed 97 = .ok (.imul, 1) := by decide +kernel
theorem dX11_feed_98 : decode cX11_feed 98 = .ok (.isub, 1) := by decide +kernel
theorem dX11_feed_99 : decode cX11_feed 99 = .ok (.ishr, 1) := by decide +kernel
theorem dX11_feed_100 : decode cX11_feed 100 = .ok (.i2b, 1) := by decide +kernel
theorem dX11_feed_101 : decode cX11_feed 101 = .ok (.bastore, 1) := by decide +kernel
theorem dX11_feed_102 : decode cX11_feed 102 = .ok (.aload_n 0, 1) := by decide +kernel
theorem dX11_feed_103 : decode cX11_feed 103 = .ok (.dup, 1) := by decide +kernel
theorem dX11_feed_104 : decode cX11_feed 104 = .ok (.getfield 154, 3) := by decide +kernel
theorem dX11_feed_107 : decode cX11_feed 107 = .ok (.iconst 1, 1) := by decide +kernel
theorem dX11_feed_108 : decode cX11_feed 108 = .ok (.iadd, 1) := by decide +kernel
theorem dX11_feed_109 : decode cX11_feed 109 = .ok (.putfield 154, 3) := by decide +kernel
theorem dX11_feed_112 : decode cX11_feed 112 = .ok (.iinc 6 1, 3) := by decide +kernel
theorem dX11_feed_115 : decode cX11_feed 115 = .ok (.goto (-91), 3) := by decide +kernel
theorem dX11_feed_118 : decode cX11_feed 118 = .ok (.aload_n 0, 1) := by decide +kernel
theorem dX11_feed_119 : decode cX11_feed 119 = .ok (.getfield 154, 3) := by decide +kernel
theorem dX11_feed_122 : decode cX11_feed 122 = .ok (.ireturn, 1) := by decide +kernel
theorem dX11_peek_0 : decode cX11_peek 0 = .ok (.aload_n 0, 1) := by decide +kernel
theorem dX11_peek_1 : decode cX11_peek 1 = .ok (.getfield 157, 3) := by decide +kernel
theorem dX11_peek_4 : decode cX11_peek 4 = .ok (.aload_n 0, 1) := by decide +kernel
theorem dX11_peek_5 : decode cX11_peek 5 = .ok (.getfield 160, 3) := by decide +kernel
theorem dX11_peek_8 : decode cX11_peek 8 = .ok (.if_icmp .ge 19, 3) := by decide +kernel
theorem dX11_peek_11 : decode cX11_peek 11 = .ok (.aload_n 0, 1) := by decide +kernel
theorem dX11_peek_12 : decode cX11_peek 12 = .ok (.getfield 71, 3) := by decide +kernel
theorem dX11_peek_15 : decode cX11_peek 15 = .ok (.aload_n 0, 1) := by decide +kernel
theorem dX11_peek_16 : decode cX11_peek 16 = .ok (.getfield 157, 3) := by decide +kernel
theorem dX11_peek_19 : decode cX11_peek 19 = .ok (.baload, 1) := by decide +kernel
theorem dX11_peek_20 : decode cX11_peek 20 = .ok (.sipush 255, 3) := by decide +kernel
theorem dX11_peek_23 : decode cX11_peek 23 = .ok (.iand, 1) := by decide +kernel
theorem dX11_peek_24 : decode cX11_peek 24 = .ok (.goto 4, 3) := by decide +kernel
theorem dX11_peek_27 : decode cX11_peek 27 = .ok (.iconst (-1), 1) := by decide +kernel
theorem dX11_peek_28 : decode cX11_peek 28 = .ok (.ireturn, 1) := by decide +kernel
theorem dX11_fails_0 : decode cX11_fails 0 = .ok (.aload_n 0, 1) := by decide +kernel
theorem dX11_fails_1 : decode cX11_fails 1 = .ok (.getfield 163, 3) := by decide +kernel
theorem dX11_fails_4 : decode cX11_fails 4 = .ok (.ifCond .eq 4, 3) := by decide +kernel
theorem dX11_fails_7 : decode cX11_fails 7 = .ok (.return_, 1) := by decide +kernel
theorem dX11_fails_8 : decode cX11_fails 8 = .ok (.aload_n 0, 1) := by decide +kernel
theorem dX11_fails_9 : decode cX11_fails 9 = .ok (.iload_n 1, 1) := by decide +kernel
theorem dX11_fails_10 : decode cX11_fails 10 = .ok (.putfield 163, 3) := by decide +kernel
theorem dX11_fails_13 : decode cX11_fails 13 = .ok (.aload_n 0, 1) := by decide +kernel
theorem dX11_fails_14 : decode cX11_fails 14 = .ok (.iload_n 2, 1) := by decide +kernel
theorem dX11_fails_15 : decode cX11_fails 15 = .ok (.putfield 166, 3) := by decide +kernel
theorem dX11_fails_18 : decode cX11_fails 18 = .ok (.return_, 1) := by decide +kernel
theorem dX11_blanks_0 : decode cX11_blanks 0 = .ok (.aload_n 0, 1) := by decide +kernel
theorem dX11_blanks_1 : decode cX11_blanks 1 = .ok (.invokevirtual 169, 3) := by decide +kernel
theorem dX11_blanks_4 : decode cX11_blanks 4 = .ok (.bipush 32, 2) := by decide +kernel
theorem dX11_blanks_6 : decode cX11_blanks 6 = .ok (.if_icmp .ne 16, 3) := by decide +kernel
theorem dX11_blanks_9 : decode cX11_blanks 9 = .ok (.aload_n 0, 1) := by decide +kernel
theorem dX11_blanks_10 : decode cX11_blanks 10 = .ok (.dup, 1) := by decide +kernel
theorem dX11_blanks_11 : decode cX11_blanks 11 = .ok (.getfield 157, 3) := by decide +kernel
theorem dX11_blanks_14 : decode cX11_blanks 14 = .ok (.iconst 1, 1) := by decide +kernel
theorem dX11_blanks_15 : decode cX11_blanks 15 = .ok (.iadd, 1) := by decide +kernel
theorem dX11_blanks_16 : decode cX11_blanks 16 = .ok (.putfield 157, 3) := by decide +kernel
theorem dX11_blanks_19 : decode cX11_blanks 19 = .ok (.goto (-19), 3) := by decide +kernel
theorem dX11_blanks_22 : decode cX11_blanks 22 = .ok (.return_, 1) := by decide +kernel
theorem dX11_lettersHere_0 : decode cX11_lettersHere 0 = .ok (.aload_n 0, 1) := by decide +kernel
theorem dX11_lettersHere_1 : decode cX11_lettersHere 1 = .ok (.invokevirtual 173, 3) := by decide +kernel
theorem dX11_lettersHere_4 : decode cX11_lettersHere 4 = .ok (.aload_n 0, 1) := by decide +kernel
theorem dX11_lettersHere_5 : decode cX11_lettersHere 5 = .ok (.getfield 157, 3) := by decide +kernel
theorem dX11_lettersHere_8 : decode cX11_lettersHere 8 = .ok (.istore_n 1, 1) := by decide +kernel
theorem dX11_lettersHere_9 : decode cX11_lettersHere 9 = .ok (.iload_n 1, 1) := by decide +kernel
theorem dX11_lettersHere_10 : decode cX11_lettersHere 10 = .ok (.aload_n 0, 1) := by decide +kernel
theorem dX11_lettersHere_11 : decode cX11_lettersHere 11 = .ok (.getfield 160, 3) := by decide +kernel
theorem dX11_lettersHere_14 : decode cX11_lettersHere 14 = .ok (.if_icmp .ge 28, 3) := by decide +kernel
theorem dX11_lettersHere_17 : decode cX11_lettersHere 17 = .ok (.aload_n 0, 1) := by decide +kernel
theorem dX11_lettersHere_18 : decode cX11_lettersHere 18 = .ok (.getfield 71, 3) := by decide +kernel
theorem dX11_lettersHere_21 : decode cX11_lettersHere 21 = .ok (.iload_n 1, 1) := by decide +kernel
theorem dX11_lettersHere_22 : decode cX11_lettersHere 22 = .ok (.baload, 1) := by decide +kernel
theorem dX11_lettersHere_23 : decode cX11_lettersHere 23 = .ok (.i2l, 1) := by decide +kernel
theorem dX11_lettersHere_24 : decode cX11_lettersHere 24 = .ok (.ldc2_w 176, 3) := by decide +kernel
theorem dX11_lettersHere_27 : decode cX11_lettersHere 27 = .ok (.ldc2_w 178, 3) := by decide +kernel
theorem dX11_lettersHere_30 : decode cX11_lettersHere 30 = .ok (.invokestatic 180, 3) := by decide +kernel
theorem dX11_lettersHere_33 : decode cX11_lettersHere 33 = .ok (.ifCond .eq 9, 3) := by decide +kernel
theorem dX11_lettersHere_36 : decode cX11_lettersHere 36 = .ok (.iinc 1 1, 3) := by decide +kernel
theorem dX11_lettersHere_39 : decode cX11_lettersHere 39 = .ok (.goto (-30), 3) := by decide +kernel
theorem dX11_lettersHere_42 : decode cX11_lettersHere 42 = .ok (.iload_n 1, 1) := by decide +kernel
theorem dX11_lettersHere_43 : decode cX11_lettersHere 43 = .ok (.aload_n 0, 1) := by decide +kernel
theorem dX11_lettersHere_44 : decode cX11_lettersHere 44 = .ok (.getfield 157, 3) := by decide +kernel
theorem dX11_lettersHere_47 : decode cX11_lettersHere 47 = .ok (.isub, 1) := by decide +kernel
theorem dX11_lettersHere_48 : decode cX11_lettersHere 48 = .ok (.ireturn, 1) := by decide +kernel
theorem dX11_wordNext_0 : decode cX11_wordNext 0 = .ok (.aload_n 0, 1) := by decide +kernel
theorem dX11_wordNext_1 : decode cX11_wordNext 1 = .ok (.invokevirtual 184, 3) := by decide +kernel
theorem dX11_wordNext_4 : decode cX11_wordNext 4 = .ok (.istore_n 1, 1) := by decide +kernel
theorem dX11_wordNext_5 : decode cX11_wordNext 5 = .ok (.iconst 0, 1) := by decide +kernel
theorem dX11_wordNext_6 : decode cX11_wordNext 6 = .ok (.istore_n 2, 1) := by decide +kernel
theorem dX11_wordNext_7 : decode cX11_wordNext 7 = .ok (.iconst 0, 1) := by decide +kernel
theorem dX11_wordNext_8 : decode cX11_wordNext 8 = .ok (.istore_n 3, 1) := by decide +kernel
theorem dX11_wordNext_9 : decode cX11_wordNext 9 = .ok (.iload_n 3, 1) := by decide +kernel
theorem dX11_wordNext_10 : decode cX11_wordNext 10 = .ok (.ldc 187, 2) := by decide +kernel
theorem dX11_wordNext_12 : decode cX11_wordNext 12 = .ok (.invokevirtual 189, 3) := by decide +kernel
theorem dX11_wordNext_15 : decode cX11_wordNext 15 = .ok (.if_icmp .ge 111, 3) := by decide +kernel
theorem dX11_wordNext_18 : decode cX11_wordNext 18 = .ok (.iconst 0, 1) := by decide +kernel
theorem dX11_wordNext_19 : decode cX11_wordNext 19 = .ok (.istore 4, 2) := by decide +kernel
theorem dX11_wordNext_21 : decode cX11_wordNext 21 = .ok (.ldc 187, 2) := by decide +kernel
theorem dX11_wordNext_23 : decode cX11_wordNext 23 = .ok (.iload_n 3, 1) := by decide +kernel
theorem dX11_wordNext_24 : decode cX11_wordNext 24 = .ok (.iload 4, 2) := by decide +kernel
theorem dX11_wordNext_26 : decode cX11_wordNext 26 = .ok (.iadd, 1) := by decide +kernel
theorem dX11_wordNext_27 : decode cX11_wordNext 27 = .ok (.invokevirtual 194, 3) := by decide +kernel
theorem dX11_wordNext_30 : decode cX11_wordNext 30 = .ok (.bipush 32, 2) := by decide +kernel
theorem dX11_wordNext_32 : decode cX11_wordNext 32 = .ok (.if_icmp .eq 9, 3) := by decide +kernel
theorem dX11_wordNext_35 : decode cX11_wordNext 35 = .ok (.iinc 4 1, 3) := by decide +kernel
theorem dX11_wordNext_38 : decode cX11_wordNext 38 = .ok (.goto (-17), 3) := by decide +kernel
theorem dX11_wordNext_41 : decode cX11_wordNext 41 = .ok (.iload 4, 2) := by decide +kernel
theorem dX11_wordNext_43 : decode cX11_wordNext 43 = .ok (.iload_n 1, 1) := by decide +kernel
theorem dX11_wordNext_44 : decode cX11_wordNext 44 = .ok (.if_icmp .ne 7, 3) := by decide +kernel
theorem dX11_wordNext_47 : decode cX11_wordNext 47 = .ok (.iconst 1, 1) := by decide +kernel
theorem dX11_wordNext_48 : decode cX11_wordNext 48 = .ok (.goto 4, 3) := by decide +kernel
theorem dX11_wordNext_51 : decode cX11_wordNext 51 = .ok (.iconst 0, 1) := by decide +kernel
theorem dX11_wordNext_52 : decode cX11_wordNext 52 = .ok (.istore 5, 2) := by decide +kernel
theorem dX11_wordNext_54 : decode cX11_wordNext 54 = .ok (.iconst 0, 1) := by decide +kernel
theorem dX11_wordNext_55 : decode cX11_wordNext 55 = .ok (.istore 6, 2) := by decide +kernel
theorem dX11_wordNext_57 : decode cX11_wordNext 57 = .ok (.iload 6, 2) := by decide +kernel
theorem dX11_wordNext_59 : decode cX11_wordNext 59 = .ok (.iload 4, 2) := by decide +kernel
theorem dX11_wordNext_61 : decode cX11_wordNext 61 = .ok (.if_icmp .ge 45, 3) := by decide +kernel
theorem dX11_wordNext_64 : decode cX11_wordNext 64 = .ok (.iload 5, 2) := by decide +kernel
theorem dX11_wordNext_66 : decode cX11_wordNext 66 = .ok (.ifCond .eq 40, 3) := by decide +kernel
theorem dX11_wordNext_69 : decode cX11_wordNext 69 = .ok (.aload_n 0, 1) := by decide +kernel
theorem dX11_wordNext_70 : decode cX11_wordNext 70 = .ok (.getfield 71, 3) := by decide +kernel
theorem dX11_wordNext_73 : decode cX11_wordNext 73 = .ok (.aload_n 0, 1) := by decide +kernel
theorem dX11_wordNext_74 : decode cX11_wordNext 74 = .ok (.getfield 157, 3) := by decide +kernel
theorem dX11_wordNext_77 : decode cX11_wordNext 77 = .ok (.iload 6, 2) := by decide +kernel
theorem dX11_wordNext_79 : decode cX11_wordNext 79 = .ok (.iadd, 1) := by decide +kernel
theorem dX11_wordNext_80 : decode cX11_wordNext 80 = .ok (.baload, 1) := by decide +kernel
theorem dX11_wordNext_81 : decode cX11_wordNext 81 = .ok (.ldc 187, 2) := by decide +kernel
theorem dX11_wordNext_83 : decode cX11_wordNext 83 = .ok (.iload_n 3, 1) := by decide +kernel
theorem dX11_wordNext_84 : decode cX11_wordNext 84 = .ok (.iload 6, 2) := by decide +kernel
theorem dX11_wordNext_86 : decode cX11_wordNext 86 = .ok (.iadd, 1) := by decide +kernel
theorem dX11_wordNext_87 : decode cX11_wordNext 87 = .ok (.invokevirtual 194, 3) := by decide +kernel
theorem dX11_wordNext_90 : decode cX11_wordNext 90 = .ok (.if_icmp .ne 7, 3) := by decide +kernel
theorem dX11_wordNext_93 : decode cX11_wordNext 93 = .ok (.iconst 1, 1) := by decide +kernel
theorem dX11_wordNext_94 : decode cX11_wordNext 94 = .ok (.goto 4, 3) := by decide +kernel
theorem dX11_wordNext_97 : decode cX11_wordNext 97 = .ok (.iconst 0, 1) := by decide +kernel
theorem dX11_wordNext_98 : decode cX11_wordNext 98 = .ok (.istore 5, 2) := by decide +kernel
theorem dX11_wordNext_100 : decode cX11_wordNext 100 = .ok (.iinc 6 1, 3) := by decide +kernel
theorem dX11_wordNext_103 : decode cX11_wordNext 103 = .ok (.goto (-46), 3) := by decide +kernel
theorem dX11_wordNext_106 : decode cX11_wordNext 106 = .ok (.iload 5, 2) := by decide +kernel
theorem dX11_wordNext_108 : decode cX11_wordNext 108 = .ok (.ifCond .eq 5, 3) := by decide +kernel
theorem dX11_wordNext_111 : decode cX11_wordNext 111 = .ok (.iload_n 2, 1) := by decide +kernel
theorem dX11_wordNext_112 : decode cX11_wordNext 112 = .ok (.ireturn, 1) := by decide +kernel
theorem dX11_wordNext_113 : decode cX11_wordNext 113 = .ok (.iload_n 3, 1) := by decide +kernel
theorem dX11_wordNext_114 : decode cX11_wordNext 114 = .ok (.iload 4, 2) := by decide +kernel
theorem dX11_wordNext_116 : decode cX11_wordNext 116 = .ok (.iconst 1, 1) := by decide +kernel
theorem dX11_wordNext_117 : decode cX11_wordNext 117 = .ok (.iadd, 1) := by decide +kernel
theorem dX11_wordNext_118 : decode cX11_wordNext 118 = .ok (.iadd, 1) := by decide +kernel
theorem dX11_wordNext_119 : decode cX11_wordNext 119 = .ok (.istore_n 3, 1) := by decide +kernel
theorem dX11_wordNext_120 : decode cX11_wordNext 120 = .ok (.iinc 2 1, 3) := by decide +kernel
theorem dX11_wordNext_123 : decode cX11_wordNext 123 = .ok (.goto (-114), 3) := by decide +kernel
theorem dX11_wordNext_126 : decode cX11_wordNext 126 = .ok (.iconst (-1), 1) := by decide +kernel
theorem dX11_wordNext_127 : decode cX11_wordNext 127 = .ok (.ireturn, 1) := by decide +kernel
theorem dX11_begins_0 : decode cX11_begins 0 = .ok (.aload_n 0, 1) := by decide +kernel
theorem dX11_begins_1 : decode cX11_begins 1 = .ok (.invokevirtual 198, 3) := by decide +kernel
theorem dX11_begins_4 : decode cX11_begins 4 = .ok (.aload_n 0, 1) := by decide +kernel
theorem dX11_begins_5 : decode cX11_begins 5 = .ok (.iconst 0, 1) := by decide +kernel
theorem dX11_begins_6 : decode cX11_begins 6 = .ok (.putfield 154, 3) := by decide +kernel
theorem dX11_begins_9 : decode cX11_begins 9 = .ok (.aload_n 0, 1) := by decide +kernel
theorem dX11_begins_10 : decode cX11_begins 10 = .ok (.iload_n 1, 1) := by decide +kernel
theorem dX11_begins_11 : decode cX11_begins 11 = .ok (.putfield 160, 3) := by decide +kernel
theorem dX11_begins_14 : decode cX11_begins 14 = .ok (.aload_n 0, 1) := by decide +kernel
theorem dX11_begins_15 : decode cX11_begins 15 = .ok (.iconst 0, 1) := by decide +kernel
theorem dX11_begins_16 : decode cX11_begins 16 = .ok (.putfield 157, 3) := by decide +kernel
theorem dX11_begins_19 : decode cX11_begins 19 = .ok (.aload_n 0, 1) := by decide +kernel
theorem dX11_begins_20 : decode cX11_begins 20 = .ok (.iconst 0, 1) := by decide +kernel
theorem dX11_begins_21 : decode cX11_begins 21 = .ok (.putfield 163, 3) := by decide +kernel
theorem dX11_begins_24 : decode cX11_begins 24 = .ok (.aload_n 0, 1) := by decide +kernel
theorem dX11_begins_25 : decode cX11_begins 25 = .ok (.iconst (-1), 1) := by decide +kernel
theorem dX11_begins_26 : decode cX11_begins 26 = .ok (.putfield 166, 3) := by decide +kernel
theorem dX11_begins_29 : decode cX11_begins 29 = .ok (.return_, 1) := by decide +kernel
theorem dX11_settles_0 : decode cX11_settles 0 = .ok (.aload_n 0, 1) := by decide +kernel
theorem dX11_settles_1 : decode cX11_settles 1 = .ok (.aload_n 0, 1) := by decide +kernel
theorem dX11_settles_2 : decode cX11_settles 2 = .ok (.getfield 163, 3) := by decide +kernel
theorem dX11_settles_5 : decode cX11_settles 5 = .ok (.putfield 201, 3) := by decide +kernel
theorem dX11_settles_8 : decode cX11_settles 8 = .ok (.aload_n 0, 1) := by decide +kernel
theorem dX11_settles_9 : decode cX11_settles 9 = .ok (.aload_n 0, 1) := by decide +kernel
theorem dX11_settles_10 : decode cX11_settles 10 = .ok (.getfield 166, 3) := by decide +kernel
theorem dX11_settles_13 : decode cX11_settles 13 = .ok (.putfield 75, 3) := by decide +kernel
theorem dX11_settles_16 : decode cX11_settles 16 = .ok (.aload_n 0, 1) := by decide +kernel
theorem dX11_settles_17 : decode cX11_settles 17 = .ok (.getfield 163, 3) := by decide +kernel
theorem dX11_settles_20 : decode cX11_settles 20 = .ok (.ireturn, 1) := by decide +kernel
theorem dX11_isOver_0 : decode cX11_isOver 0 = .ok (.aload_n 0, 1) := by decide +kernel
theorem dX11_isOver_1 : decode cX11_isOver 1 = .ok (.invokevirtual 173, 3) := by decide +kernel
theorem dX11_isOver_4 : decode cX11_isOver 4 = .ok (.aload_n 0, 1) := by decide +kernel
theorem dX11_isOver_5 : decode cX11_isOver 5 = .ok (.getfield 163, 3) := by decide +kernel
theorem dX11_isOver_8 : decode cX11_isOver 8 = .ok (.ifCond .ne 11, 3) := by decide +kernel
theorem dX11_isOver_11 : decode cX11_isOver 11 = .ok (.aload_n 0, 1) := by decide +kernel
theorem dX11_isOver_12 : decode cX11_isOver 12 = .ok (.invokevirtual 169, 3) := by decide +kernel
theorem dX11_isOver_15 : decode cX11_isOver 15 = .ok (.iconst (-1), 1) := by decide +kernel
theorem dX11_isOver_16 : decode cX11_isOver 16 = .ok (.if_icmp .ne 7, 3) := by decide +kernel
theorem dX11_isOver_19 : decode cX11_isOver 19 = .ok (.iconst 1, 1) := by decide +kernel
theorem dX11_isOver_20 : decode cX11_isOver 20 = .ok (.goto 4, 3) := by decide +kernel
theorem dX11_isOver_23 : decode cX11_isOver 23 = .ok (.iconst 0, 1) := by decide +kernel
theorem dX11_isOver_24 : decode cX11_isOver 24 = .ok (.ireturn, 1) := by decide +kernel
theorem dX11_readFormula_0 : decode cX11_readFormula 0 = .ok (.aload_n 0, 1) := by decide +kernel
theorem dX11_readFormula_1 : decode cX11_readFormula 1 = .ok (.getfield 163, 3) := by decide +kernel
theorem dX11_readFormula_4 : decode cX11_readFormula 4 = .ok (.ifCond .eq 5, 3) := by decide +kernel
theorem dX11_readFormula_7 : decode cX11_readFormula 7 = .ok (.iconst 0, 1) := by decide +kernel
theorem dX11_readFormula_8 : decode cX11_readFormula 8 = .ok (.ireturn, 1) := by decide +kernel
theorem dX11_readFormula_9 : decode cX11_readFormula 9 = .ok (.aload_n 0, 1) := by decide +kernel
theorem dX11_readFormula_10 : decode cX11_readFormula 10 = .ok (.invokevirtual 204, 3) := by decide +kernel
theorem dX11_readFormula_13 : decode cX11_readFormula 13 = .ok (.istore_n 1, 1) := by decide +kernel
theorem dX11_readFormula_14 : decode cX11_readFormula 14 = .ok (.iload_n 1, 1) := by decide +kernel
theorem dX11_readFormula_15 : decode cX11_readFormula 15 = .ok (.i2l, 1) := by decide +kernel
theorem dX11_readFormula_16 : decode cX11_readFormula 16 = .ok (.lconst 0, 1) := by decide +kernel
theorem dX11_readFormula_17 : decode cX11_readFormula 17 = .ok (.ldc2_w 207, 3) := by decide +kernel
theorem dX11_readFormula_20 : decode cX11_readFormula 20 = .ok (.invokestatic 180, 3) := by decide +kernel
theorem dX11_readFormula_23 : decode cX11_readFormula 23 = .ok (.ifCond .ne 15, 3) := by decide +kernel
theorem dX11_readFormula_26 : decode cX11_readFormula 26 = .ok (.aload_n 0, 1) := by decide +kernel
theorem dX11_readFormula_27 : decode cX11_readFormula 27 = .ok (.iconst 1, 1) := by decide +kernel
theorem dX11_readFormula_28 : decode cX11_readFormula 28 = .ok (.aload_n 0, 1) := by decide +kernel
theorem dX11_readFormula_29 : decode cX11_readFormula 29 = .ok (.getfield 157, 3) := by decide +kernel
theorem dX11_readFormula_32 : decode cX11_readFormula 32 = .ok (.invokevirtual 209, 3) := by decide +kernel
theorem dX11_readFormula_35 : decode cX11_readFormula 35 = .ok (.goto 21, 3) := by decide +kernel
theorem dX11_readFormula_38 : decode cX11_readFormula 38 = .ok (.aload_n 0, 1) := by decide +kernel
theorem dX11_readFormula_39 : decode cX11_readFormula 39 = .ok (.getfield 213, 3) := by decide +kernel
theorem dX11_readFormula_42 : decode cX11_readFormula 42 = .ok (.bipush 30, 2) := by decide +kernel
theorem dX11_readFormula_44 : decode cX11_readFormula 44 = .ok (.if_icmp .ne 12, 3) := by decide +kernel
theorem dX11_readFormula_47 : decode cX11_readFormula 47 = .ok (.aload_n 0, 1) := by decide +kernel
theorem dX11_readFormula_48 : decode cX11_readFormula 48 = .ok (.iconst 4, 1) := by decide +kernel
theorem dX11_readFormula_49 : decode cX11_readFormula 49 = .ok (.aload_n 0, 1) := by decide +kernel
theorem dX11_readFormula_50 : decode cX11_readFormula 50 = .ok (.getfield 157, 3) := by decide +kernel
theorem dX11_readFormula_53 : decode cX11_readFormula 53 = .ok (.invokevirtual 209, 3) := by decide +kernel
theorem dX11_readFormula_56 : decode cX11_readFormula 56 = .ok (.aload_n 0, 1) := by decide +kernel
theorem dX11_readFormula_57 : decode cX11_readFormula 57 = .ok (.getfield 163, 3) := by decide +kernel
theorem dX11_readFormula_60 : decode cX11_readFormula 60 = .ok (.ifCond .eq 5, 3) := by decide +kernel
theorem dX11_readFormula_63 : decode cX11_readFormula 63 = .ok (.iconst 0, 1) := by decide +kernel
theorem dX11_readFormula_64 : decode cX11_readFormula 64 = .ok (.ireturn, 1) := by decide +kernel
theorem dX11_readFormula_65 : decode cX11_readFormula 65 = .ok (.aload_n 0, 1) := by decide +kernel
theorem dX11_readFormula_66 : decode cX11_readFormula 66 = .ok (.dup, 1) := by decide +kernel
theorem dX11_readFormula_67 : decode cX11_readFormula 67 = .ok (.getfield 213, 3) := by decide +kernel
theorem dX11_readFormula_70 : decode cX11_readFormula 70 = .ok (.iconst 1, 1) := by decide +kernel
theorem dX11_readFormula_71 : decode cX11_readFormula 71 = .ok (.iadd, 1) := by decide +kernel
theorem dX11_readFormula_72 : decode cX11_readFormula 72 = .ok (.putfield 213, 3) := by decide +kernel
theorem dX11_readFormula_75 : decode cX11_readFormula 75 = .ok (.aload_n 0, 1) := by decide +kernel
theorem dX11_readFormula_76 : decode cX11_readFormula 76 = .ok (.dup, 1) := by decide +kernel
theorem dX11_readFormula_77 : decode cX11_readFormula 77 = .ok (.getfield 157, 3) := by decide +kernel
theorem dX11_readFormula_80 : decode cX11_readFormula 80 = .ok (.aload_n 0, 1) := by decide +kernel
theorem dX11_readFormula_81 : decode cX11_readFormula 81 = .ok (.invokevirtual 184, 3) := by decide +kernel
theorem dX11_readFormula_84 : decode cX11_readFormula 84 = .ok (.iadd, 1) := by decide +kernel
theorem dX11_readFormula_85 : decode cX11_readFormula 85 = .ok (.putfield 157, 3) := by decide +kernel
theorem dX11_readFormula_88 : decode cX11_readFormula 88 = .ok (.iload_n 1, 1) := by decide +kernel
theorem dX11_readFormula_89 : decode cX11_readFormula 89 = .ok (.bipush 8, 2) := by decide +kernel
theorem dX11_readFormula_91 : decode cX11_readFormula 91 = .ok (.if_icmp .gt 11, 3) := by decide +kernel
theorem dX11_readFormula_94 : decode cX11_readFormula 94 = .ok (.aload_n 0, 1) := by decide +kernel
theorem dX11_readFormula_95 : decode cX11_readFormula 95 = .ok (.iload_n 1, 1) := by decide +kernel
theorem dX11_readFormula_96 : decode cX11_readFormula 96 = .ok (.iconst (-1), 1) := by decide +kernel
theorem dX11_readFormula_97 : decode cX11_readFormula 97 = .ok (.iconst (-1), 1) := by decide +kernel
theorem dX11_readFormula_98 : decode cX11_readFormula 98 = .ok (.invokevirtual 130, 3) := by decide +kernel
theorem dX11_readFormula_101 : decode cX11_readFormula 101 = .ok (.ireturn, 1) := by decide +kernel
theorem dX11_readFormula_102 : decode cX11_readFormula 102 = .ok (.aload_n 0, 1) := by decide +kernel
theorem dX11_readFormula_103 : decode cX11_readFormula 103 = .ok (.invokevirtual 216, 3) := by decide +kernel
theorem dX11_readFormula_106 : decode cX11_readFormula 106 = .ok (.istore_n 2, 1) := by decide +kernel
theorem dX11_readFormula_107 : decode cX11_readFormula 107 = .ok (.iload_n 1, 1) := by decide +kernel
theorem dX11_readFormula_108 : decode cX11_readFormula 108 = .ok (.bipush 12, 2) := by decide +kernel
theorem dX11_readFormula_110 : decode cX11_readFormula 110 = .ok (.if_icmp .ne 14, 3) := by decide +kernel
theorem dX11_readFormula_113 : decode cX11_readFormula 113 = .ok (.aload_n 0, 1) := by decide +kernel
theorem dX11_readFormula_114 : decode cX11_readFormula 114 = .ok (.bipush 8, 2) := by decide +kernel
theorem dX11_readFormula_116 : decode cX11_readFormula 116 = .ok (.iconst (-1), 1) := by decide +kernel
theorem dX11_readFormula_117 : decode cX11_readFormula 117 = .ok (.iconst (-1), 1) := by decide +kernel
theorem dX11_readFormula_118 : decode cX11_readFormula 118 = .ok (.invokevirtual 130, 3) := by decide +kernel
theorem dX11_readFormula_121 : decode cX11_readFormula 121 = .ok (.goto 7, 3) := by decide +kernel
theorem dX11_readFormula_124 : decode cX11_readFormula 124 = .ok (.aload_n 0, 1) := by decide +kernel
theorem dX11_readFormula_125 : decode cX11_readFormula 125 = .ok (.invokevirtual 216, 3) := by decide +kernel
theorem dX11_readFormula_128 : decode cX11_readFormula 128 = .ok (.istore_n 3, 1) := by decide +kernel
theorem dX11_readFormula_129 : decode cX11_readFormula 129 = .ok (.aload_n 0, 1) := by decide +kernel
theorem dX11_readFormula_130 : decode cX11_readFormula 130 = .ok (.getfield 163, 3) := by decide +kernel
theorem dX11_readFormula_133 : decode cX11_readFormula 133 = .ok (.ifCond .eq 7, 3) := by decide +kernel
theorem dX11_readFormula_136 : decode cX11_readFormula 136 = .ok (.iconst 0, 1) := by decide +kernel
theorem dX11_readFormula_137 : decode cX11_readFormula 137 = .ok (.goto 21, 3) := by decide +kernel
theorem dX11_readFormula_140 : decode cX11_readFormula 140 = .ok (.aload_n 0, 1) := by decide +kernel
theorem dX11_readFormula_141 : decode cX11_readFormula 141 = .ok (.iload_n 1, 1) := by decide +kernel
theorem dX11_readFormula_142 : decode cX11_readFormula 142 = .ok (.bipush 12, 2) := by decide +kernel
theorem dX11_readFormula_144 : decode cX11_readFormula 144 = .ok (.if_icmp .ne 8, 3) := by decide +kernel
theorem dX11_readFormula_147 : decode cX11_readFormula 147 = .ok (.bipush 9, 2) := by decide +kernel
theorem dX11_readFormula_149 : decode cX11_readFormula 149 = .ok (.goto 4, 3) := by decide +kernel
theorem dX11_readFormula_152 : decode cX11_readFormula 152 = .ok (.iload_n 1, 1) := by decide +kernel
theorem dX11_readFormula_153 : decode cX11_readFormula 153 = .ok (.iload_n 2, 1) := by decide +kernel
theorem dX11_readFormula_154 : decode cX11_readFormula 154 = .ok (.iload_n 3, 1) := by decide +kernel
theorem dX11_readFormula_155 : decode cX11_readFormula 155 = .ok (.invokevirtual 130, 3) := by decide +kernel
theorem dX11_readFormula_158 : decode cX11_readFormula 158 = .ok (.ireturn, 1) := by decide +kernel
theorem dX11_formulaRead_0 : decode cX11_formulaRead 0 = .ok (.aload_n 0, 1) := by decide +kernel
theorem dX11_formulaRead_1 : decode cX11_formulaRead 1 = .ok (.iconst 0, 1) := by decide +kernel
theorem dX11_formulaRead_2 : decode cX11_formulaRead 2 = .ok (.putfield 213, 3) := by decide +kernel
theorem dX11_formulaRead_5 : decode cX11_formulaRead 5 = .ok (.aload_n 0, 1) := by decide +kernel
theorem dX11_formulaRead_6 : decode cX11_formulaRead 6 = .ok (.invokevirtual 216, 3) := by decide +kernel
theorem dX11_formulaRead_9 : decode cX11_formulaRead 9 = .ok (.ireturn, 1) := by decide +kernel
theorem dX11_nameHere_0 : decode cX11_nameHere 0 = .ok (.aload_n 0, 1) := by decide +kernel
theorem dX11_nameHere_1 : decode cX11_nameHere 1 = .ok (.invokevirtual 204, 3) := by decide +kernel
theorem dX11_nameHere_4 : decode cX11_nameHere 4 = .ok (.istore_n 1, 1) := by decide +kernel
theorem dX11_nameHere_5 : decode cX11_nameHere 5 = .ok (.aload_n 0, 1) := by decide +kernel
theorem dX11_nameHere_6 : decode cX11_nameHere 6 = .ok (.invokevirtual 184, 3) := by decide +kernel
theorem dX11_nameHere_9 : decode cX11_nameHere 9 = .ok (.istore_n 2, 1) := by decide +kernel
theorem dX11_nameHere_10 : decode cX11_nameHere 10 = .ok (.iload_n 2, 1) := by decide +kernel
theorem dX11_nameHere_11 : decode cX11_nameHere 11 = .ok (.i2l, 1) := by decide +kernel
theorem dX11_nameHere_12 : decode cX11_nameHere 12 = .ok (.lconst 1, 1) := by decide +kernel
theorem dX11_nameHere_13 : decode cX11_nameHere 13 = .ok (.ldc2_w 219, 3) := by decide +kernel
theorem dX11_nameHere_16 : decode cX11_nameHere 16 = .ok (.invokestatic 180, 3) := by decide +kernel
theorem dX11_nameHere_19 : decode cX11_nameHere 19 = .ok (.ifCond .eq 18, 3) := by decide +kernel
theorem dX11_nameHere_22 : decode cX11_nameHere 22 = .ok (.iload_n 1, 1) := by decide +kernel
theorem dX11_nameHere_23 : decode cX11_nameHere 23 = .ok (.iconst (-1), 1) := by decide +kernel
theorem dX11_nameHere_24 : decode cX11_nameHere 24 = .ok (.if_icmp .eq 9, 3) := by decide +kernel
theorem dX11_nameHere_27 : decode cX11_nameHere 27 = .ok (.iload_n 1, 1) := by decide +kernel
theorem dX11_nameHere_28 : decode cX11_nameHere 28 = .ok (.bipush 8, 2) := by decide +kernel
theorem dX11_nameHere_30 : decode cX11_nameHere 30 = .ok (.if_icmp .ge 7, 3) := by decide +kernel
theorem dX11_nameHere_33 : decode cX11_nameHere 33 = .ok (.iload_n 2, 1) := by decide +kernel
theorem dX11_nameHere_34 : decode cX11_nameHere 34 = .ok (.goto 4, 3) := by decide +kernel
theorem dX11_nameHere_37 : decode cX11_nameHere 37 = .ok (.iconst 0, 1) := by decide +kernel
theorem dX11_nameHere_38 : decode cX11_nameHere 38 = .ok (.ireturn, 1) := by decide +kernel
theorem dX11_readHypothesis_0 : decode cX11_readHypothesis 0 = .ok (.aload_n 0, 1) := by decide +kernel
theorem dX11_readHypothesis_1 : decode cX11_readHypothesis 1 = .ok (.invokevirtual 221, 3) := by decide +kernel
theorem dX11_readHypothesis_4 : decode cX11_readHypothesis 4 = .ok (.istore_n 1, 1) := by decide +kernel
theorem dX11_readHypothesis_5 : decode cX11_readHypothesis 5 = .ok (.aload_n 0, 1) := by decide +kernel
theorem dX11_readHypothesis_6 : decode cX11_readHypothesis 6 = .ok (.getfield 157, 3) := by decide +kernel
theorem dX11_readHypothesis_9 : decode cX11_readHypothesis 9 = .ok (.istore_n 2, 1) := by decide +kernel
theorem dX11_readHypothesis_10 : decode cX11_readHypothesis 10 = .ok (.iload_n 1, 1) := by decide +kernel
theorem dX11_readHypothesis_11 : decode cX11_readHypothesis 11 = .ok (.ifCond .ne 9, 3) := by decide +kernel
theorem dX11_readHypothesis_14 : decode cX11_readHypothesis 14 = .ok (.aload_n 0, 1) := by decide +kernel
theorem dX11_readHypothesis_15 : decode cX11_readHypothesis 15 = .ok (.iconst 1, 1) := by decide +kernel
theorem dX11_readHypothesis_16 : decode cX11_readHypothesis 16 = .ok (.iload_n 2, 1) := by decide +kernel
theorem dX11_readHypothesis_17 : decode cX11_readHypothesis 17 = .ok (.invokevirtual 209, 3) := by decide +kernel
theorem dX11_readHypothesis_20 : decode cX11_readHypothesis 20 = .ok (.aload_n 0, 1) := by decide +kernel
theorem dX11_readHypothesis_21 : decode cX11_readHypothesis 21 = .ok (.getfield 71, 3) := by decide +kernel
theorem dX11_readHypothesis_24 : decode cX11_readHypothesis 24 = .ok (.iload_n 2, 1) := by decide +kernel
theorem dX11_readHypothesis_25 : decode cX11_readHypothesis 25 = .ok (.baload, 1) := by decide +kernel
theorem dX11_readHypothesis_26 : decode cX11_readHypothesis 26 = .ok (.bipush 120, 2) := by decide +kernel
theorem dX11_readHypothesis_28 : decode cX11_readHypothesis 28 = .ok (.if_icmp .ne 12, 3) := by decide +kernel
theorem dX11_readHypothesis_31 : decode cX11_readHypothesis 31 = .ok (.iload_n 1, 1) := by decide +kernel
theorem dX11_readHypothesis_32 : decode cX11_readHypothesis 32 = .ok (.iconst 1, 1) := by decide +kernel
theorem dX11_readHypothesis_33 : decode cX11_readHypothesis 33 = .ok (.if_icmp .le 7, 3) := by decide +kernel
theorem dX11_readHypothesis_36 : decode cX11_readHypothesis 36 = .ok (.iconst 1, 1) := by decide +kernel
theorem dX11_readHypothesis_37 : decode cX11_readHypothesis 37 = .ok (.goto 4, 3) := by decide +kernel
theorem dX11_readHypothesis_40 : decode cX11_readHypothesis 40 = .ok (.iconst 0, 1) := by decide +kernel
theorem dX11_readHypothesis_41 : decode cX11_readHypothesis 41 = .ok (.istore_n 3, 1) := by decide +kernel
theorem dX11_readHypothesis_42 : decode cX11_readHypothesis 42 = .ok (.iconst 0, 1) := by decide +kernel
theorem dX11_readHypothesis_43 : decode cX11_readHypothesis 43 = .ok (.istore 4, 2) := by decide +kernel
theorem dX11_readHypothesis_45 : decode cX11_readHypothesis 45 = .ok (.iload 4, 2) := by decide +kernel
theorem dX11_readHypothesis_47 : decode cX11_readHypothesis 47 = .ok (.aload_n 0, 1) := by decide +kernel
theorem dX11_readHypothesis_48 : decode cX11_readHypothesis 48 = .ok (.getfield 224, 3) := by decide +kernel
theorem dX11_readHypothesis_51 : decode cX11_readHypothesis 51 = .ok (.if_icmp .ge 37, 3) := by decide +kernel
theorem dX11_readHypothesis_54 : decode cX11_readHypothesis 54 = .ok (.iload_n 3, 1) := by decide +kernel
theorem dX11_readHypothesis_55 : decode cX11_readHypothesis 55 = .ok (.ifCond .ne 21, 3) := by decide +kernel
theorem dX11_readHypothesis_58 : decode cX11_readHypothesis 58 = .ok (.aload_n 0, 1) := by decide +kernel
theorem dX11_readHypothesis_59 : decode cX11_readHypothesis 59 = .ok (.aload_n 0, 1) := by decide +kernel
theorem dX11_readHypothesis_60 : decode cX11_readHypothesis 60 = .ok (.getfield 41, 3) := by decide +kernel
theorem dX11_readHypothesis_63 : decode cX11_readHypothesis 63 = .ok (.aload_n 0, 1) := by decide +kernel
theorem dX11_readHypothesis_64 : decode cX11_readHypothesis 64 = .ok (.getfield 44, 3) := by decide +kernel
theorem dX11_readHypothesis_67 : decode cX11_readHypothesis 67 = .ok (.iload 4, 2) := by decide +kernel
theorem dX11_readHypothesis_69 : decode cX11_readHypothesis 69 = .ok (.iload_n 1, 1) := by decide +kernel
theorem dX11_readHypothesis_70 : decode cX11_readHypothesis 70 = .ok (.invokevirtual 227, 3) := by decide +kernel
theorem dX11_readHypothesis_73 : decode cX11_readHypothesis 73 = .ok (.ifCond .eq 7, 3) := by decide +kernel
theorem dX11_readHypothesis_76 : decode cX11_readHypothesis 76 = .ok (.iconst 1, 1) := by decide +kernel
theorem dX11_readHypothesis_77 : decode cX11_readHypothesis 77 = .ok (.goto 4, 3) := by decide +kernel
theorem dX11_readHypothesis_80 : decode cX11_readHypothesis 80 = .ok (.iconst 0, 1) := by decide +kernel
theorem dX11_readHypothesis_81 : decode cX11_readHypothesis 81 = .ok (.istore_n 3, 1) := by decide +kernel
theorem dX11_readHypothesis_82 : decode cX11_readHypothesis 82 = .ok (.iinc 4 1, 3) := by decide +kernel
theorem dX11_readHypothesis_85 : decode cX11_readHypothesis 85 = .ok (.goto (-40), 3) := by decide +kernel
theorem dX11_readHypothesis_88 : decode cX11_readHypothesis 88 = .ok (.aload_n 0, 1) := by decide +kernel
theorem dX11_readHypothesis_89 : decode cX11_readHypothesis 89 = .ok (.getfield 163, 3) := by decide +kernel
theorem dX11_readHypothesis_92 : decode cX11_readHypothesis 92 = .ok (.ifCond .ne 13, 3) := by decide +kernel
theorem dX11_readHypothesis_95 : decode cX11_readHypothesis 95 = .ok (.iload_n 3, 1) := by decide +kernel
theorem dX11_readHypothesis_96 : decode cX11_readHypothesis 96 = .ok (.ifCond .eq 9, 3) := by decide +kernel
theorem dX11_readHypothesis_99 : decode cX11_readHypothesis 99 = .ok (.aload_n 0, 1) := by decide +kernel
theorem dX11_readHypothesis_100 : decode cX11_readHypothesis 100 = .ok (.iconst 2, 1) := by decide +kernel
theorem dX11_readHypothesis_101 : decode cX11_readHypothesis 101 = .ok (.iload_n 2, 1) := by decide +kernel
theorem dX11_readHypothesis_102 : decode cX11_readHypothesis 102 = .ok (.invokevirtual 209, 3) := by decide +kernel
theorem dX11_readHypothesis_105 : decode cX11_readHypothesis 105 = .ok (.aload_n 0, 1) := by decide +kernel
theorem dX11_readHypothesis_106 : decode cX11_readHypothesis 106 = .ok (.getfield 224, 3) := by decide +kernel
theorem dX11_readHypothesis_109 : decode cX11_readHypothesis 109 = .ok (.bipush 6, 2) := by decide +kernel
theorem dX11_readHypothesis_111 : decode cX11_readHypothesis 111 = .ok (.if_icmp .ne 9, 3) := by decide +kernel
theorem dX11_readHypothesis_114 : decode cX11_readHypothesis 114 = .ok (.aload_n 0, 1) := by decide +kernel
theorem dX11_readHypothesis_115 : decode cX11_readHypothesis 115 = .ok (.iconst 4, 1) := by decide +kernel
theorem dX11_readHypothesis_116 : decode cX11_readHypothesis 116 = .ok (.iload_n 2, 1) := by decide +kernel
theorem dX11_readHypothesis_117 : decode cX11_readHypothesis 117 = .ok (.invokevirtual 209, 3) := by decide +kernel
theorem dX11_readHypothesis_120 : decode cX11_readHypothesis 120 = .ok (.aload_n 0, 1) := by decide +kernel
theorem dX11_readHypothesis_121 : decode cX11_readHypothesis 121 = .ok (.getfield 163, 3) := by decide +kernel
theorem dX11_readHypothesis_124 : decode cX11_readHypothesis 124 = .ok (.ifCond .eq 4, 3) := by decide +kernel
theorem dX11_readHypothesis_127 : decode cX11_readHypothesis 127 = .ok (.return_, 1) := by decide +kernel
theorem dX11_readHypothesis_128 : decode cX11_readHypothesis 128 = .ok (.iconst 0, 1) := by decide +kernel
theorem dX11_readHypothesis_129 : decode cX11_readHypothesis 129 = .ok (.istore 4, 2) := by decide +kernel
theorem dX11_readHypothesis_131 : decode cX11_readHypothesis 131 = .ok (.iload 4, 2) := by decide +kernel
theorem dX11_readHypothesis_133 : decode cX11_readHypothesis 133 = .ok (.iconst 4, 1) := by decide +kernel
theorem dX11_readHypothesis_134 : decode cX11_readHypothesis 134 = .ok (.if_icmp .ge 42, 3) := by decide +kernel
theorem dX11_readHypothesis_137 : decode cX11_readHypothesis 137 = .ok (.aload_n 0, 1) := by decide +kernel
theorem dX11_readHypothesis_138 : decode cX11_readHypothesis 138 = .ok (.getfield 41, 3) := by decide +kernel
theorem dX11_readHypothesis_141 : decode cX11_readHypothesis 141 = .ok (.iconst 4, 1) := by decide +kernel
theorem dX11_readHypothesis_142 : decode cX11_readHypothesis 142 = .ok (.aload_n 0, 1) := by decide +kernel
theorem dX11_readHypothesis_143 : decode cX11_readHypothesis 143 = .ok (.getfield 224, 3) := by decide +kernel
theorem dX11_readHypothesis_146 : decode cX11_readHypothesis 146 = .ok (.imul, 1) := by decide +kernel
theorem dX11_readHypothesis_147 : decode cX11_readHypothesis 147 = .ok (.iload 4, 2) := by decide +kernel
theorem dX11_readHypothesis_149 : decode cX11_readHypothesis 149 = .ok (.iadd, 1) := by decide +kernel
theorem dX11_readHypothesis_150 : decode cX11_readHypothesis 150 = .ok (.iload 4, 2) := by decide +kernel
theorem dX11_readHypothesis_152 : decode cX11_readHypothesis 152 = .ok (.iload_n 1, 1) := by decide +kernel
theorem dX11_readHypothesis_153 : decode cX11_readHypothesis 153 = .ok (.if_icmp .ge 15, 3) := by decide +kernel
theorem dX11_readHypothesis_156 : decode cX11_readHypothesis 156 = .ok (.aload_n 0, 1) := by decide +kernel
theorem dX11_readHypothesis_157 : decode cX11_readHypothesis 157 = .ok (.getfield 71, 3) := by decide +kernel
theorem dX11_readHypothesis_160 : decode cX11_readHypothesis 160 = .ok (.iload_n 2, 1) := by decide +kernel
theorem dX11_readHypothesis_161 : decode cX11_readHypothesis 161 = .ok (.iload 4, 2) := by decide +kernel
theorem dX11_readHypothesis_163 : decode cX11_readHypothesis 163 = .ok (.iadd, 1) := by decide +kernel
theorem dX11_readHypothesis_164 : decode cX11_readHypothesis 164 = .ok (.baload, 1) := by decide +kernel
theorem dX11_readHypothesis_165 : decode cX11_readHypothesis 165 = .ok (.goto 4, 3) := by decide +kernel
theorem dX11_readHypothesis_168 : decode cX11_readHypothesis 168 = .ok (.iconst 0, 1) := by decide +kernel
theorem dX11_readHypothesis_169 : decode cX11_readHypothesis 169 = .ok (.iastore, 1) := by decide +kernel
theorem dX11_readHypothesis_170 : decode cX11_readHypothesis 170 = .ok (.iinc 4 1, 3) := by decide +kernel
theorem dX11_readHypothesis_173 : decode cX11_readHypothesis 173 = .ok (.goto (-42), 3) := by decide +kernel
theorem dX11_readHypothesis_176 : decode cX11_readHypothesis 176 = .ok (.aload_n 0, 1) := by decide +kernel
theorem dX11_readHypothesis_177 : decode cX11_readHypothesis 177 = .ok (.getfield 44, 3) := by decide +kernel
theorem dX11_readHypothesis_180 : decode cX11_readHypothesis 180 = .ok (.aload_n 0, 1) := by decide +kernel
theorem dX11_readHypothesis_181 : decode cX11_readHypothesis 181 = .ok (.getfield 224, 3) := by decide +kernel
theorem dX11_readHypothesis_184 : decode cX11_readHypothesis 184 = .ok (.iload_n 1, 1) := by decide +kernel
theorem dX11_readHypothesis_185 : decode cX11_readHypothesis 185 = .ok (.iastore, 1) := by decide +kernel
theorem dX11_readHypothesis_186 : decode cX11_readHypothesis 186 = .ok (.aload_n 0, 1) := by decide +kernel
theorem dX11_readHypothesis_187 : decode cX11_readHypothesis 187 = .ok (.dup, 1) := by decide +kernel
theorem dX11_readHypothesis_188 : decode cX11_readHypothesis 188 = .ok (.getfield 157, 3) := by decide +kernel
theorem dX11_readHypothesis_191 : decode cX11_readHypothesis 191 = .ok (.iload_n 1, 1) := by decide +kernel
theorem dX11_readHypothesis_192 : decode cX11_readHypothesis 192 = .ok (.iadd, 1) := by decide +kernel
theorem dX11_readHypothesis_193 : decode cX11_readHypothesis 193 = .ok (.putfield 157, 3) := by decide +kernel
theorem dX11_readHypothesis_196 : decode cX11_readHypothesis 196 = .ok (.aload_n 0, 1) := by decide +kernel
theorem dX11_readHypothesis_197 : decode cX11_readHypothesis 197 = .ok (.getfield 47, 3) := by decide +kernel
theorem dX11_readHypothesis_200 : decode cX11_readHypothesis 200 = .ok (.aload_n 0, 1) := by decide +kernel
theorem dX11_readHypothesis_201 : decode cX11_readHypothesis 201 = .ok (.getfield 224, 3) := by decide +kernel
theorem dX11_readHypothesis_204 : decode cX11_readHypothesis 204 = .ok (.aload_n 0, 1) := by decide +kernel
theorem dX11_readHypothesis_205 : decode cX11_readHypothesis 205 = .ok (.invokevirtual 231, 3) := by decide +kernel
theorem dX11_readHypothesis_208 : decode cX11_readHypothesis 208 = .ok (.iastore, 1) := by decide +kernel
theorem dX11_readHypothesis_209 : decode cX11_readHypothesis 209 = .ok (.aload_n 0, 1) := by decide +kernel
theorem dX11_readHypothesis_210 : decode cX11_readHypothesis 210 = .ok (.invokevirtual 173, 3) := by decide +kernel
theorem dX11_readHypothesis_213 : decode cX11_readHypothesis 213 = .ok (.aload_n 0, 1) := by decide +kernel
theorem dX11_readHypothesis_214 : decode cX11_readHypothesis 214 = .ok (.getfield 163, 3) := by decide +kernel
theorem dX11_readHypothesis_217 : decode cX11_readHypothesis 217 = .ok (.ifCond .ne 21, 3) := by decide +kernel
theorem dX11_readHypothesis_220 : decode cX11_readHypothesis 220 = .ok (.aload_n 0, 1) := by decide +kernel
theorem dX11_readHypothesis_221 : decode cX11_readHypothesis 221 = .ok (.invokevirtual 169, 3) := by decide +kernel
theorem dX11_readHypothesis_224 : decode cX11_readHypothesis 224 = .ok (.bipush 59, 2) := by decide +kernel
theorem dX11_readHypothesis_226 : decode cX11_readHypothesis 226 = .ok (.if_icmp .eq 12, 3) := by decide +kernel
theorem dX11_readHypothesis_229 : decode cX11_readHypothesis 229 = .ok (.aload_n 0, 1) := by decide +kernel
theorem dX11_readHypothesis_230 : decode cX11_readHypothesis 230 = .ok (.iconst 1, 1) := by decide +kernel
theorem dX11_readHypothesis_231 : decode cX11_readHypothesis 231 = .ok (.aload_n 0, 1) := by decide +kernel
theorem dX11_readHypothesis_232 : decode cX11_readHypothesis 232 = .ok (.getfield 157, 3) := by decide +kernel
theorem dX11_readHypothesis_235 : decode cX11_readHypothesis 235 = .ok (.invokevirtual 209, 3) := by decide +kernel
theorem dX11_readHypothesis_238 : decode cX11_readHypothesis 238 = .ok (.aload_n 0, 1) := by decide +kernel
theorem dX11_readHypothesis_239 : decode cX11_readHypothesis 239 = .ok (.dup, 1) := by decide +kernel
theorem dX11_readHypothesis_240 : decode cX11_readHypothesis 240 = .ok (.getfield 157, 3) := by decide +kernel
theorem dX11_readHypothesis_243 : decode cX11_readHypothesis 243 = .ok (.iconst 1, 1) := by decide +kernel
theorem dX11_readHypothesis_244 : decode cX11_readHypothesis 244 = .ok (.iadd, 1) := by decide +kernel
theorem dX11_readHypothesis_245 : decode cX11_readHypothesis 245 = .ok (.putfield 157, 3) := by decide +kernel
theorem dX11_readHypothesis_248 : decode cX11_readHypothesis 248 = .ok (.aload_n 0, 1) := by decide +kernel
theorem dX11_readHypothesis_249 : decode cX11_readHypothesis 249 = .ok (.dup, 1) := by decide +kernel
theorem dX11_readHypothesis_250 : decode cX11_readHypothesis 250 = .ok (.getfield 224, 3) := by decide +kernel
theorem dX11_readHypothesis_253 : decode cX11_readHypothesis 253 = .ok (.iconst 1, 1) := by decide +kernel
theorem dX11_readHypothesis_254 : decode cX11_readHypothesis 254 = .ok (.iadd, 1) := by decide +kernel
theorem dX11_readHypothesis_255 : decode cX11_readHypothesis 255 = .ok (.putfield 224, 3) := by decide +kernel
theorem dX11_readHypothesis_258 : decode cX11_readHypothesis 258 = .ok (.return_, 1) := by decide +kernel
theorem dX11_isNamed_0 : decode cX11_isNamed 0 = .ok (.aload_n 2, 1) := by decide +kernel
theorem dX11_isNamed_1 : decode cX11_isNamed 1 = .ok (.iload_n 3, 1) := by decide +kernel
theorem dX11_isNamed_2 : decode cX11_isNamed 2 = .ok (.iaload, 1) := by decide +kernel
theorem dX11_isNamed_3 : decode cX11_isNamed 3 = .ok (.iload 4, 2) := by decide +kernel
theorem dX11_isNamed_5 : decode cX11_isNamed 5 = .ok (.if_icmp .ne 7, 3) := by decide +kernel
theorem dX11_isNamed_8 : decode cX11_isNamed 8 = .ok (.iconst 1, 1) := by decide +kernel
theorem dX11_isNamed_9 : decode cX11_isNamed 9 = .ok (.goto 4, 3) := by decide +kernel
theorem dX11_isNamed_12 : decode cX11_isNamed 12 = .ok (.iconst 0, 1) := by decide +kernel
theorem dX11_isNamed_13 : decode cX11_isNamed 13 = .ok (.istore 5, 2) := by decide +kernel
theorem dX11_isNamed_15 : decode cX11_isNamed 15 = .ok (.iconst 0, 1) := by decide +kernel
theorem dX11_isNamed_16 : decode cX11_isNamed 16 = .ok (.istore 6, 2) := by decide +kernel
theorem dX11_isNamed_18 : decode cX11_isNamed 18 = .ok (.iload 6, 2) := by decide +kernel
theorem dX11_isNamed_20 : decode cX11_isNamed 20 = .ok (.iload 4, 2) := by decide +kernel
theorem dX11_isNamed_22 : decode cX11_isNamed 22 = .ok (.if_icmp .ge 44, 3) := by decide +kernel
theorem dX11_isNamed_25 : decode cX11_isNamed 25 = .ok (.iload 5, 2) := by decide +kernel
theorem dX11_isNamed_27 : decode cX11_isNamed 27 = .ok (.ifCond .eq 39, 3) := by decide +kernel
theorem dX11_isNamed_30 : decode cX11_isNamed 30 = .ok (.aload_n 1, 1) := by decide +kernel
theorem dX11_isNamed_31 : decode cX11_isNamed 31 = .ok (.iconst 4, 1) := by decide +kernel
theorem dX11_isNamed_32 : decode cX11_isNamed 32 = .ok (.iload_n 3, 1) := by decide +kernel
theorem dX11_isNamed_33 : decode cX11_isNamed 33 = .ok (.imul, 1) := by decide +kernel
theorem dX11_isNamed_34 : decode cX11_isNamed 34 = .ok (.iload 6, 2) := by decide +kernel
theorem dX11_isNamed_36 : decode cX11_isNamed 36 = .ok (.iadd, 1) := by decide +kernel
theorem dX11_isNamed_37 : decode cX11_isNamed 37 = .ok (.iaload, 1) := by decide +kernel
theorem dX11_isNamed_38 : decode cX11_isNamed 38 = .ok (.aload_n 0, 1) := by decide +kernel
theorem dX11_isNamed_39 : decode cX11_isNamed 39 = .ok (.getfield 71, 3) := by decide +kernel
theorem dX11_isNamed_42 : decode cX11_isNamed 42 = .ok (.aload_n 0, 1) := by decide +kernel
theorem dX11_isNamed_43 : decode cX11_isNamed 43 = .ok (.getfield 157, 3) := by decide +kernel
theorem dX11_isNamed_46 : decode cX11_isNamed 46 = .ok (.iload 6, 2) := by decide +kernel
theorem dX11_isNamed_48 : decode cX11_isNamed 48 = .ok (.iadd, 1) := by decide +kernel
theorem dX11_isNamed_49 : decode cX11_isNamed 49 = .ok (.baload, 1) := by decide +kernel
theorem dX11_isNamed_50 : decode cX11_isNamed 50 = .ok (.if_icmp .ne 7, 3) := by decide +kernel
theorem dX11_isNamed_53 : decode cX11_isNamed 53 = .ok (.iconst 1, 1) := by decide +kernel
theorem dX11_isNamed_54 : decode cX11_isNamed 54 = .ok (.goto 4, 3) := by decide +kernel
theorem dX11_isNamed_57 : decode cX11_isNamed 57 = .ok (.iconst 0, 1) := by decide +kernel
theorem dX11_isNamed_58 : decode cX11_isNamed 58 = .ok (.istore 5, 2) := by decide +kernel
theorem dX11_isNamed_60 : decode cX11_isNamed 60 = .ok (.iinc 6 1, 3) := by decide +kernel
theorem dX11_isNamed_63 : decode cX11_isNamed 63 = .ok (.goto (-45), 3) := by decide +kernel
theorem dX11_isNamed_66 : decode cX11_isNamed 66 = .ok (.iload 5, 2) := by decide +kernel
theorem dX11_isNamed_68 : decode cX11_isNamed 68 = .ok (.ireturn, 1) := by decide +kernel
theorem dX11_hypotheses_0 : decode cX11_hypotheses 0 = .ok (.aload_n 0, 1) := by decide +kernel
theorem dX11_hypotheses_1 : decode cX11_hypotheses 1 = .ok (.iconst 0, 1) := by decide +kernel
theorem dX11_hypotheses_2 : decode cX11_hypotheses 2 = .ok (.putfield 1, 3) := by decide +kernel
theorem dX11_hypotheses_5 : decode cX11_hypotheses 5 = .ok (.iload_n 1, 1) := by decide +kernel
theorem dX11_hypotheses_6 : decode cX11_hypotheses 6 = .ok (.i2l, 1) := by decide +kernel
theorem dX11_hypotheses_7 : decode cX11_hypotheses 7 = .ok (.lconst 0, 1) := by decide +kernel
theorem dX11_hypotheses_8 : decode cX11_hypotheses 8 = .ok (.aload_n 0, 1) := by decide +kernel
theorem dX11_hypotheses_9 : decode cX11_hypotheses 9 = .ok (.getfield 154, 3) := by decide +kernel
theorem dX11_hypotheses_12 : decode cX11_hypotheses 12 = .ok (.i2l, 1) := by decide +kernel
theorem dX11_hypotheses_13 : decode cX11_hypotheses 13 = .ok (.invokestatic 180, 3) := by decide +kernel
theorem dX11_hypotheses_16 : decode cX11_hypotheses 16 = .ok (.ifCond .ne 6, 3) := by decide +kernel
theorem dX11_hypotheses_19 : decode cX11_hypotheses 19 = .ok (.bipush (-3), 2) := by decide +kernel
theorem dX11_hypotheses_21 : decode cX11_hypotheses 21 = .ok (.ireturn, 1) := by decide +kernel
theorem dX11_hypotheses_22 : decode cX11_hypotheses 22 = .ok (.aload_n 0, 1) := by decide +kernel
theorem dX11_hypotheses_23 : decode cX11_hypotheses 23 = .ok (.iload_n 1, 1) := by decide +kernel
theorem dX11_hypotheses_24 : decode cX11_hypotheses 24 = .ok (.invokevirtual 234, 3) := by decide +kernel
theorem dX11_hypotheses_27 : decode cX11_hypotheses 27 = .ok (.aload_n 0, 1) := by decide +kernel
theorem dX11_hypotheses_28 : decode cX11_hypotheses 28 = .ok (.iconst 0, 1) := by decide +kernel
theorem dX11_hypotheses_29 : decode cX11_hypotheses 29 = .ok (.putfield 224, 3) := by decide +kernel
theorem dX11_hypotheses_32 : decode cX11_hypotheses 32 = .ok (.aload_n 0, 1) := by decide +kernel
theorem dX11_hypotheses_33 : decode cX11_hypotheses 33 = .ok (.invokevirtual 237, 3) := by decide +kernel
theorem dX11_hypotheses_36 : decode cX11_hypotheses 36 = .ok (.ifCond .ne 10, 3) := by decide +kernel
theorem dX11_hypotheses_39 : decode cX11_hypotheses 39 = .ok (.aload_n 0, 1) := by decide +kernel
theorem dX11_hypotheses_40 : decode cX11_hypotheses 40 = .ok (.invokevirtual 241, 3) := by decide +kernel
theorem dX11_hypotheses_43 : decode cX11_hypotheses 43 = .ok (.goto (-11), 3) := by decide +kernel
theorem dX11_hypotheses_46 : decode cX11_hypotheses 46 = .ok (.aload_n 0, 1) := by decide +kernel
theorem dX11_hypotheses_47 : decode cX11_hypotheses 47 = .ok (.invokevirtual 244, 3) := by decide +kernel
theorem dX11_hypotheses_50 : decode cX11_hypotheses 50 = .ok (.ifCond .eq 11, 3) := by decide +kernel
theorem dX11_hypotheses_53 : decode cX11_hypotheses 53 = .ok (.bipush (-30), 2) := by decide +kernel
theorem dX11_hypotheses_55 : decode cX11_hypotheses 55 = .ok (.aload_n 0, 1) := by decide +kernel
theorem dX11_hypotheses_56 : decode cX11_hypotheses 56 = .ok (.getfield 163, 3) := by decide +kernel
theorem dX11_hypotheses_59 : decode cX11_hypotheses 59 = .ok (.isub, 1) := by decide +kernel
theorem dX11_hypotheses_60 : decode cX11_hypotheses 60 = .ok (.ireturn, 1) := by decide +kernel
theorem dX11_hypotheses_61 : decode cX11_hypotheses 61 = .ok (.aload_n 0, 1) := by decide +kernel
theorem dX11_hypotheses_62 : decode cX11_hypotheses 62 = .ok (.aload_n 0, 1) := by decide +kernel
theorem dX11_hypotheses_63 : decode cX11_hypotheses 63 = .ok (.getfield 224, 3) := by decide +kernel
theorem dX11_hypotheses_66 : decode cX11_hypotheses 66 = .ok (.putfield 144, 3) := by decide +kernel
theorem dX11_hypotheses_69 : decode cX11_hypotheses 69 = .ok (.iconst 0, 1) := by decide +kernel
theorem dX11_hypotheses_70 : decode cX11_hypotheses 70 = .ok (.istore_n 2, 1) := by decide +kernel
theorem dX11_hypotheses_71 : decode cX11_hypotheses 71 = .ok (.iload_n 2, 1) := by decide +kernel
theorem dX11_hypotheses_72 : decode cX11_hypotheses 72 = .ok (.bipush 24, 2) := by decide +kernel
theorem dX11_hypotheses_74 : decode cX11_hypotheses 74 = .ok (.if_icmp .ge 21, 3) := by decide +kernel
theorem dX11_hypotheses_77 : decode cX11_hypotheses 77 = .ok (.aload_n 0, 1) := by decide +kernel
theorem dX11_hypotheses_78 : decode cX11_hypotheses 78 = .ok (.getfield 32, 3) := by decide +kernel
theorem dX11_hypotheses_81 : decode cX11_hypotheses 81 = .ok (.iload_n 2, 1) := by decide +kernel
theorem dX11_hypotheses_82 : decode cX11_hypotheses 82 = .ok (.aload_n 0, 1) := by decide +kernel
theorem dX11_hypotheses_83 : decode cX11_hypotheses 83 = .ok (.getfield 41, 3) := by decide +kernel
theorem dX11_hypotheses_86 : decode cX11_hypotheses 86 = .ok (.iload_n 2, 1) := by decide +kernel
theorem dX11_hypotheses_87 : decode cX11_hypotheses 87 = .ok (.iaload, 1) := by decide +kernel
theorem dX11_hypotheses_88 : decode cX11_hypotheses 88 = .ok (.iastore, 1) := by decide +kernel
theorem dX11_hypotheses_89 : decode cX11_hypotheses 89 = .ok (.iinc 2 1, 3) := by decide +kernel
theorem dX11_hypotheses_92 : decode cX11_hypotheses 92 = .ok (.goto (-21), 3) := by decide +kernel
theorem dX11_hypotheses_95 : decode cX11_hypotheses 95 = .ok (.iconst 0, 1) := by decide +kernel
theorem dX11_hypotheses_96 : decode cX11_hypotheses 96 = .ok (.istore_n 2, 1) := by decide +kernel
theorem dX11_hypotheses_97 : decode cX11_hypotheses 97 = .ok (.iload_n 2, 1) := by decide +kernel
theorem dX11_hypotheses_98 : decode cX11_hypotheses 98 = .ok (.bipush 6, 2) := by decide +kernel
theorem dX11_hypotheses_100 : decode cX11_hypotheses 100 = .ok (.if_icmp .ge 33, 3) := by decide +kernel
theorem dX11_hypotheses_103 : decode cX11_hypotheses 103 = .ok (.aload_n 0, 1) := by decide +kernel
theorem dX11_hypotheses_104 : decode cX11_hypotheses 104 = .ok (.getfield 35, 3) := by decide +kernel
theorem dX11_hypotheses_107 : decode cX11_hypotheses 107 = .ok (.iload_n 2, 1) := by decide +kernel
theorem dX11_hypotheses_108 : decode cX11_hypotheses 108 = .ok (.aload_n 0, 1) := by decide +kernel
theorem dX11_hypotheses_109 : decode cX11_hypotheses 109 = .ok (.getfield 44, 3) := by decide +kernel
theorem dX11_hypotheses_112 : decode cX11_hypotheses 112 = .ok (.iload_n 2, 1) := by decide +kernel
theorem dX11_hypotheses_113 : decode cX11_hypotheses 113 = .ok (.iaload, 1) := by decide +kernel
theorem dX11_hypotheses_114 : decode cX11_hypotheses 114 = .ok (.iastore, 1) := by decide +kernel
theorem dX11_hypotheses_115 : decode cX11_hypotheses 115 = .ok (.aload_n 0, 1) := by decide +kernel
theorem dX11_hypotheses_116 : decode cX11_hypotheses 116 = .ok (.getfield 38, 3) := by decide +kernel
theorem dX11_hypotheses_119 : decode cX11_hypotheses 119 = .ok (.iload_n 2, 1) := by decide +kernel
theorem dX11_hypotheses_120 : decode cX11_hypotheses 120 = .ok (.aload_n 0, 1) := by decide +kernel
theorem dX11_hypotheses_121 : decode cX11_hypotheses 121 = .ok (.getfield 47, 3) := by decide +kernel
theorem dX11_hypotheses_124 : decode cX11_hypotheses 124 = .ok (.iload_n 2, 1) := by decide +kernel
theorem dX11_hypotheses_125 : decode cX11_hypotheses 125 = .ok (.iaload, 1) := by decide +kernel
theorem dX11_hypotheses_126 : decode cX11_hypotheses 126 = .ok (.iastore, 1) := by decide +kernel
theorem dX11_hypotheses_127 : decode cX11_hypotheses 127 = .ok (.iinc 2 1, 3) := by decide +kernel
theorem dX11_hypotheses_130 : decode cX11_hypotheses 130 = .ok (.goto (-33), 3) := by decide +kernel
theorem dX11_hypotheses_133 : decode cX11_hypotheses 133 = .ok (.iconst 0, 1) := by decide +kernel
theorem dX11_hypotheses_134 : decode cX11_hypotheses 134 = .ok (.istore_n 2, 1) := by decide +kernel
theorem dX11_hypotheses_135 : decode cX11_hypotheses 135 = .ok (.iload_n 2, 1) := by decide +kernel
theorem dX11_hypotheses_136 : decode cX11_hypotheses 136 = .ok (.iconst 4, 1) := by decide +kernel
theorem dX11_hypotheses_137 : decode cX11_hypotheses 137 = .ok (.if_icmp .ge 16, 3) := by decide +kernel
theorem dX11_hypotheses_140 : decode cX11_hypotheses 140 = .ok (.aload_n 0, 1) := by decide +kernel
theorem dX11_hypotheses_141 : decode cX11_hypotheses 141 = .ok (.getfield 56, 3) := by decide +kernel
theorem dX11_hypotheses_144 : decode cX11_hypotheses 144 = .ok (.iload_n 2, 1) := by decide +kernel
theorem dX11_hypotheses_145 : decode cX11_hypotheses 145 = .ok (.iconst 0, 1) := by decide +kernel
theorem dX11_hypotheses_146 : decode cX11_hypotheses 146 = .ok (.iastore, 1) := by decide +kernel
theorem dX11_hypotheses_147 : decode cX11_hypotheses 147 = .ok (.iinc 2 1, 3) := by decide +kernel
theorem dX11_hypotheses_150 : decode cX11_hypotheses 150 = .ok (.goto (-15), 3) := by decide +kernel
theorem dX11_hypotheses_153 : decode cX11_hypotheses 153 = .ok (.aload_n 0, 1) := by decide +kernel
theorem dX11_hypotheses_154 : decode cX11_hypotheses 154 = .ok (.getfield 144, 3) := by decide +kernel
theorem dX11_hypotheses_157 : decode cX11_hypotheses 157 = .ok (.ireturn, 1) := by decide +kernel
theorem dX11_goal_0 : decode cX11_goal 0 = .ok (.aload_n 0, 1) := by decide +kernel
theorem dX11_goal_1 : decode cX11_goal 1 = .ok (.iconst 0, 1) := by decide +kernel
theorem dX11_goal_2 : decode cX11_goal 2 = .ok (.putfield 1, 3) := by decide +kernel
theorem dX11_goal_5 : decode cX11_goal 5 = .ok (.iload_n 1, 1) := by decide +kernel
theorem dX11_goal_6 : decode cX11_goal 6 = .ok (.i2l, 1) := by decide +kernel
theorem dX11_goal_7 : decode cX11_goal 7 = .ok (.lconst 0, 1) := by decide +kernel
theorem dX11_goal_8 : decode cX11_goal 8 = .ok (.aload_n 0, 1) := by decide +kernel
theorem dX11_goal_9 : decode cX11_goal 9 = .ok (.getfield 154, 3) := by decide +kernel
theorem dX11_goal_12 : decode cX11_goal 12 = .ok (.i2l, 1) := by decide +kernel
theorem dX11_goal_13 : decode cX11_goal 13 = .ok (.invokestatic 180, 3) := by decide +kernel
theorem dX11_goal_16 : decode cX11_goal 16 = .ok (.ifCond .ne 6, 3) := by decide +kernel
theorem dX11_goal_19 : decode cX11_goal 19 = .ok (.bipush (-3), 2) := by decide +kernel
theorem dX11_goal_21 : decode cX11_goal 21 = .ok (.ireturn, 1) := by decide +kernel
theorem dX11_goal_22 : decode cX11_goal 22 = .ok (.aload_n 0, 1) := by decide +kernel
theorem dX11_goal_23 : decode cX11_goal 23 = .ok (.iload_n 1, 1) := by decide +kernel
theorem dX11_goal_24 : decode cX11_goal 24 = .ok (.invokevirtual 234, 3) := by decide +kernel
theorem dX11_goal_27 : decode cX11_goal 27 = .ok (.aload_n 0, 1) := by decide +kernel
theorem dX11_goal_28 : decode cX11_goal 28 = .ok (.invokevirtual 231, 3) := by decide +kernel
theorem dX11_goal_31 : decode cX11_goal 31 = .ok (.istore_n 2, 1) := by decide +kernel
theorem dX11_goal_32 : decode cX11_goal 32 = .ok (.aload_n 0, 1) := by decide +kernel
theorem dX11_goal_33 : decode cX11_goal 33 = .ok (.getfield 163, 3) := by decide +kernel
theorem dX11_goal_36 : decode cX11_goal 36 = .ok (.ifCond .ne 19, 3) := by decide +kernel
theorem dX11_goal_39 : decode cX11_goal 39 = .ok (.aload_n 0, 1) := by decide +kernel
theorem dX11_goal_40 : decode cX11_goal 40 = .ok (.invokevirtual 237, 3) := by decide +kernel
theorem dX11_goal_43 : decode cX11_goal 43 = .ok (.ifCond .ne 12, 3) := by decide +kernel
theorem dX11_goal_46 : decode cX11_goal 46 = .ok (.aload_n 0, 1) := by decide +kernel
theorem dX11_goal_47 : decode cX11_goal 47 = .ok (.iconst 1, 1) := by decide +kernel
theorem dX11_goal_48 : decode cX11_goal 48 = .ok (.aload_n 0, 1) := by decide +kernel
theorem dX11_goal_49 : decode cX11_goal 49 = .ok (.getfield 157, 3) := by decide +kernel
theorem dX11_goal_52 : decode cX11_goal 52 = .ok (.invokevirtual 209, 3) := by decide +kernel
theorem dX11_goal_55 : decode cX11_goal 55 = .ok (.aload_n 0, 1) := by decide +kernel
theorem dX11_goal_56 : decode cX11_goal 56 = .ok (.invokevirtual 244, 3) := by decide +kernel
theorem dX11_goal_59 : decode cX11_goal 59 = .ok (.ifCond .eq 11, 3) := by decide +kernel
theorem dX11_goal_62 : decode cX11_goal 62 = .ok (.bipush (-30), 2) := by decide +kernel
theorem dX11_goal_64 : decode cX11_goal 64 = .ok (.aload_n 0, 1) := by decide +kernel
theorem dX11_goal_65 : decode cX11_goal 65 = .ok (.getfield 163, 3) := by decide +kernel
theorem dX11_goal_68 : decode cX11_goal 68 = .ok (.isub, 1) := by decide +kernel
theorem dX11_goal_69 : decode cX11_goal 69 = .ok (.ireturn, 1) := by decide +kernel
theorem dX11_goal_70 : decode cX11_goal 70 = .ok (.aload_n 0, 1) := by decide +kernel
theorem dX11_goal_71 : decode cX11_goal 71 = .ok (.iload_n 2, 1) := by decide +kernel
theorem dX11_goal_72 : decode cX11_goal 72 = .ok (.putfield 134, 3) := by decide +kernel
theorem dX11_goal_75 : decode cX11_goal 75 = .ok (.aload_n 0, 1) := by decide +kernel
theorem dX11_goal_76 : decode cX11_goal 76 = .ok (.getfield 213, 3) := by decide +kernel
theorem dX11_goal_79 : decode cX11_goal 79 = .ok (.ireturn, 1) := by decide +kernel
theorem dX11_meant_0 : decode cX11_meant 0 = .ok (.aload_n 0, 1) := by decide +kernel
theorem dX11_meant_1 : decode cX11_meant 1 = .ok (.getfield 247, 3) := by decide +kernel
theorem dX11_meant_4 : decode cX11_meant 4 = .ok (.iconst 1, 1) := by decide +kernel
theorem dX11_meant_5 : decode cX11_meant 5 = .ok (.isub, 1) := by decide +kernel
theorem dX11_meant_6 : decode cX11_meant 6 = .ok (.istore_n 2, 1) := by decide +kernel
theorem dX11_meant_7 : decode cX11_meant 7 = .ok (.iload_n 2, 1) := by decide +kernel
theorem dX11_meant_8 : decode cX11_meant 8 = .ok (.ifCond .lt 28, 3) := by decide +kernel
theorem dX11_meant_11 : decode cX11_meant 11 = .ok (.aload_n 0, 1) := by decide +kernel
theorem dX11_meant_12 : decode cX11_meant 12 = .ok (.aload_n 0, 1) := by decide +kernel
theorem dX11_meant_13 : decode cX11_meant 13 = .ok (.getfield 81, 3) := by decide +kernel
theorem dX11_meant_16 : decode cX11_meant 16 = .ok (.aload_n 0, 1) := by decide +kernel
theorem dX11_meant_17 : decode cX11_meant 17 = .ok (.getfield 84, 3) := by decide +kernel
theorem dX11_meant_20 : decode cX11_meant 20 = .ok (.iload_n 2, 1) := by decide +kernel
theorem dX11_meant_21 : decode cX11_meant 21 = .ok (.iload_n 1, 1) := by decide +kernel
theorem dX11_meant_22 : decode cX11_meant 22 = .ok (.invokevirtual 227, 3) := by decide +kernel
theorem dX11_meant_25 : decode cX11_meant 25 = .ok (.ifCond .eq 5, 3) := by decide +kernel
theorem dX11_meant_28 : decode cX11_meant 28 = .ok (.iload_n 2, 1) := by decide +kernel
theorem dX11_meant_29 : decode cX11_meant 29 = .ok (.ireturn, 1) := by decide +kernel
theorem dX11_meant_30 : decode cX11_meant 30 = .ok (.iinc 2 (-1), 3) := by decide +kernel
theorem dX11_meant_33 : decode cX11_meant 33 = .ok (.goto (-26), 3) := by decide +kernel
theorem dX11_meant_36 : decode cX11_meant 36 = .ok (.iconst 0, 1) := by decide +kernel
theorem dX11_meant_37 : decode cX11_meant 37 = .ok (.istore_n 2, 1) := by decide +kernel
theorem dX11_meant_38 : decode cX11_meant 38 = .ok (.iload_n 2, 1) := by decide +kernel
theorem dX11_meant_39 : decode cX11_meant 39 = .ok (.aload_n 0, 1) := by decide +kernel
theorem dX11_meant_40 : decode cX11_meant 40 = .ok (.getfield 144, 3) := by decide +kernel
theorem dX11_meant_43 : decode cX11_meant 43 = .ok (.if_icmp .ge 30, 3) := by decide +kernel
theorem dX11_meant_46 : decode cX11_meant 46 = .ok (.aload_n 0, 1) := by decide +kernel
theorem dX11_meant_47 : decode cX11_meant 47 = .ok (.aload_n 0, 1) := by decide +kernel
theorem dX11_meant_48 : decode cX11_meant 48 = .ok (.getfield 32, 3) := by decide +kernel
theorem dX11_meant_51 : decode cX11_meant 51 = .ok (.aload_n 0, 1) := by decide +kernel
theorem dX11_meant_52 : decode cX11_meant 52 = .ok (.getfield 35, 3) := by decide +kernel
theorem dX11_meant_55 : decode cX11_meant 55 = .ok (.iload_n 2, 1) := by decide +kernel
theorem dX11_meant_56 : decode cX11_meant 56 = .ok (.iload_n 1, 1) := by decide +kernel
theorem dX11_meant_57 : decode cX11_meant 57 = .ok (.invokevirtual 227, 3) := by decide +kernel
theorem dX11_meant_60 : decode cX11_meant 60 = .ok (.ifCond .eq 7, 3) := by decide +kernel
theorem dX11_meant_63 : decode cX11_meant 63 = .ok (.iconst (-1), 1) := by decide +kernel
theorem dX11_meant_64 : decode cX11_meant 64 = .ok (.iload_n 2, 1) := by decide +kernel
theorem dX11_meant_65 : decode cX11_meant 65 = .ok (.isub, 1) := by decide +kernel
theorem dX11_meant_66 : decode cX11_meant 66 = .ok (.ireturn, 1) := by decide +kernel
theorem dX11_meant_67 : decode cX11_meant 67 = .ok (.iinc 2 1, 3) := by decide +kernel
theorem dX11_meant_70 : decode cX11_meant 70 = .ok (.goto (-32), 3) := by decide +kernel
theorem dX11_meant_73 : decode cX11_meant 73 = .ok (.bipush (-7), 2) := by decide +kernel
theorem dX11_meant_75 : decode cX11_meant 75 = .ok (.ireturn, 1) := by decide +kernel
theorem dX11_readName0_0 : decode cX11_readName0 0 = .ok (.aload_n 0, 1) := by decide +kernel
theorem dX11_readName0_1 : decode cX11_readName0 1 = .ok (.iload_n 2, 1) := by decide +kernel
theorem dX11_readName0_2 : decode cX11_readName0 2 = .ok (.invokevirtual 250, 3) := by decide +kernel
theorem dX11_readName0_5 : decode cX11_readName0 5 = .ok (.istore_n 3, 1) := by decide +kernel
theorem dX11_readName0_6 : decode cX11_readName0 6 = .ok (.iload_n 3, 1) := by decide +kernel
theorem dX11_readName0_7 : decode cX11_readName0 7 = .ok (.bipush (-6), 2) := by decide +kernel
theorem dX11_readName0_9 : decode cX11_readName0 9 = .ok (.if_icmp .ge 9, 3) := by decide +kernel
theorem dX11_readName0_12 : decode cX11_readName0 12 = .ok (.aload_n 0, 1) := by decide +kernel
theorem dX11_readName0_13 : decode cX11_readName0 13 = .ok (.iconst 3, 1) := by decide +kernel
theorem dX11_readName0_14 : decode cX11_readName0 14 = .ok (.iload_n 1, 1) := by decide +kernel
theorem dX11_readName0_15 : decode cX11_readName0 15 = .ok (.invokevirtual 209, 3) := by decide +kernel
theorem dX11_readName0_18 : decode cX11_readName0 18 = .ok (.aload_n 0, 1) := by decide +kernel
theorem dX11_readName0_19 : decode cX11_readName0 19 = .ok (.iload_n 1, 1) := by decide +kernel
theorem dX11_readName0_20 : decode cX11_readName0 20 = .ok (.iconst 0, 1) := by decide +kernel
theorem dX11_readName0_21 : decode cX11_readName0 21 = .ok (.iload_n 3, 1) := by decide +kernel
theorem dX11_readName0_22 : decode cX11_readName0 22 = .ok (.invokevirtual 254, 3) := by decide +kernel
theorem dX11_readName0_25 : decode cX11_readName0 25 = .ok (.return_, 1) := by decide +kernel
theorem dX11_adds_0 : decode cX11_adds 0 = .ok (.aload_n 0, 1) := by decide +kernel
theorem dX11_adds_1 : decode cX11_adds 1 = .ok (.getfield 163, 3) := by decide +kernel
theorem dX11_adds_4 : decode cX11_adds 4 = .ok (.ifCond .ne 18, 3) := by decide +kernel
theorem dX11_adds_7 : decode cX11_adds 7 = .ok (.aload_n 0, 1) := by decide +kernel
theorem dX11_adds_8 : decode cX11_adds 8 = .ok (.getfield 151, 3) := by decide +kernel
theorem dX11_adds_11 : decode cX11_adds 11 = .ok (.bipush 120, 2) := by decide +kernel
theorem dX11_adds_13 : decode cX11_adds 13 = .ok (.if_icmp .ne 9, 3) := by decide +kernel
theorem dX11_adds_16 : decode cX11_adds 16 = .ok (.aload_n 0, 1) := by decide +kernel
theorem dX11_adds_17 : decode cX11_adds 17 = .ok (.iconst 4, 1) := by decide +kernel
theorem dX11_adds_18 : decode cX11_adds 18 = .ok (.iload_n 1, 1) := by decide +kernel
theorem dX11_adds_19 : decode cX11_adds 19 = .ok (.invokevirtual 209, 3) := by decide +kernel
theorem dX11_adds_22 : decode cX11_adds 22 = .ok (.aload_n 0, 1) := by decide +kernel
theorem dX11_adds_23 : decode cX11_adds 23 = .ok (.getfield 163, 3) := by decide +kernel
theorem dX11_adds_26 : decode cX11_adds 26 = .ok (.ifCond .eq 4, 3) := by decide +kernel
theorem dX11_adds_29 : decode cX11_adds 29 = .ok (.return_, 1) := by decide +kernel
theorem dX11_adds_30 : decode cX11_adds 30 = .ok (.aload_n 0, 1) := by decide +kernel
theorem dX11_adds_31 : decode cX11_adds 31 = .ok (.getfield 78, 3) := by decide +kernel
theorem dX11_adds_34 : decode cX11_adds 34 = .ok (.aload_n 0, 1) := by decide +kernel
theorem dX11_adds_35 : decode cX11_adds 35 = .ok (.getfield 151, 3) := by decide +kernel
theorem dX11_adds_38 : decode cX11_adds 38 = .ok (.iload_n 1, 1) := by decide +kernel
theorem dX11_adds_39 : decode cX11_adds 39 = .ok (.iastore, 1) := by decide +kernel
theorem dX11_adds_40 : decode cX11_adds 40 = .ok (.aload_n 0, 1) := by decide +kernel
theorem dX11_adds_41 : decode cX11_adds 41 = .ok (.getfield 59, 3) := by decide +kernel
theorem dX11_adds_44 : decode cX11_adds 44 = .ok (.aload_n 0, 1) := by decide +kernel
theorem dX11_adds_45 : decode cX11_adds 45 = .ok (.getfield 151, 3) := by decide +kernel
theorem dX11_adds_48 : decode cX11_adds 48 = .ok (.iload_n 2, 1) := by decide +kernel
theorem dX11_adds_49 : decode cX11_adds 49 = .ok (.iastore, 1) := by decide +kernel
theorem dX11_adds_50 : decode cX11_adds 50 = .ok (.aload_n 0, 1) := by decide +kernel
theorem dX11_adds_51 : decode cX11_adds 51 = .ok (.getfield 62, 3) := by decide +kernel
theorem dX11_adds_54 : decode cX11_adds 54 = .ok (.aload_n 0, 1) := by decide +kernel
theorem dX11_adds_55 : decode cX11_adds 55 = .ok (.getfield 151, 3) := by decide +kernel
theorem dX11_adds_58 : decode cX11_adds 58 = .ok (.iload_n 3, 1) := by decide +kernel
theorem dX11_adds_59 : decode cX11_adds 59 = .ok (.iastore, 1) := by decide +kernel
theorem dX11_adds_60 : decode cX11_adds 60 = .ok (.aload_n 0, 1) := by decide +kernel
theorem dX11_adds_61 : decode cX11_adds 61 = .ok (.dup, 1) := by decide +kernel
theorem dX11_adds_62 : decode cX11_adds 62 = .ok (.getfield 151, 3) := by decide +kernel
theorem dX11_adds_65 : decode cX11_adds 65 = .ok (.iconst 1, 1) := by decide +kernel
theorem dX11_adds_66 : decode cX11_adds 66 = .ok (.iadd, 1) := by decide +kernel
theorem dX11_adds_67 : decode cX11_adds 67 = .ok (.putfield 151, 3) := by decide +kernel
theorem dX11_adds_70 : decode cX11_adds 70 = .ok (.aload_n 0, 1) := by decide +kernel
theorem dX11_adds_71 : decode cX11_adds 71 = .ok (.dup, 1) := by decide +kernel
theorem dX11_adds_72 : decode cX11_adds 72 = .ok (.getfield 157, 3) := by decide +kernel
theorem dX11_adds_75 : decode cX11_adds 75 = .ok (.aload_n 0, 1) := by decide +kernel
theorem dX11_adds_76 : decode cX11_adds 76 = .ok (.invokevirtual 184, 3) := by decide +kernel
theorem dX11_adds_79 : decode cX11_adds 79 = .ok (.iadd, 1) := by decide +kernel
theorem dX11_adds_80 : decode cX11_adds 80 = .ok (.putfield 157, 3) := by decide +kernel
theorem dX11_adds_83 : decode cX11_adds 83 = .ok (.return_, 1) := by decide +kernel
theorem dX11_tells0_0 : decode cX11_tells0 0 = .ok (.aload_n 0, 1) := by decide +kernel
theorem dX11_tells0_1 : decode cX11_tells0 1 = .ok (.getfield 163, 3) := by decide +kernel
theorem dX11_tells0_4 : decode cX11_tells0 4 = .ok (.ifCond .eq 4, 3) := by decide +kernel
theorem dX11_tells0_7 : decode cX11_tells0 7 = .ok (.return_, 1) := by decide +kernel
theorem dX11_tells0_8 : decode cX11_tells0 8 = .ok (.aload_n 0, 1) := by decide +kernel
theorem dX11_tells0_9 : decode cX11_tells0 9 = .ok (.invokevirtual 221, 3) := by decide +kernel
theorem dX11_tells0_12 : decode cX11_tells0 12 = .ok (.istore_n 1, 1) := by decide +kernel
theorem dX11_tells0_13 : decode cX11_tells0 13 = .ok (.iload_n 1, 1) := by decide +kernel
theorem dX11_tells0_14 : decode cX11_tells0 14 = .ok (.ifCond .ne 15, 3) := by decide +kernel
theorem dX11_tells0_17 : decode cX11_tells0 17 = .ok (.aload_n 0, 1) := by decide +kernel
theorem dX11_tells0_18 : decode cX11_tells0 18 = .ok (.iconst 1, 1) := by decide +kernel
theorem dX11_tells0_19 : decode cX11_tells0 19 = .ok (.aload_n 0, 1) := by decide +kernel
theorem dX11_tells0_20 : decode cX11_tells0 20 = .ok (.getfield 157, 3) := by decide +kernel
theorem dX11_tells0_23 : decode cX11_tells0 23 = .ok (.invokevirtual 209, 3) := by decide +kernel
theorem dX11_tells0_26 : decode cX11_tells0 26 = .ok (.goto 21, 3) := by decide +kernel
theorem dX11_tells0_29 : decode cX11_tells0 29 = .ok (.aload_n 0, 1) := by decide +kernel
theorem dX11_tells0_30 : decode cX11_tells0 30 = .ok (.getfield 247, 3) := by decide +kernel
theorem dX11_tells0_33 : decode cX11_tells0 33 = .ok (.bipush 24, 2) := by decide +kernel
theorem dX11_tells0_35 : decode cX11_tells0 35 = .ok (.if_icmp .ne 12, 3) := by decide +kernel
theorem dX11_tells0_38 : decode cX11_tells0 38 = .ok (.aload_n 0, 1) := by decide +kernel
theorem dX11_tells0_39 : decode cX11_tells0 39 = .ok (.iconst 4, 1) := by decide +kernel
theorem dX11_tells0_40 : decode cX11_tells0 40 = .ok (.aload_n 0, 1) := by decide +kernel
theorem dX11_tells0_41 : decode cX11_tells0 41 = .ok (.getfield 157, 3) := by decide +kernel
theorem dX11_tells0_44 : decode cX11_tells0 44 = .ok (.invokevirtual 209, 3) := by decide +kernel
theorem dX11_tells0_47 : decode cX11_tells0 47 = .ok (.aload_n 0, 1) := by decide +kernel
theorem dX11_tells0_48 : decode cX11_tells0 48 = .ok (.getfield 163, 3) := by decide +kernel
theorem dX11_tells0_51 : decode cX11_tells0 51 = .ok (.ifCond .eq 4, 3) := by decide +kernel
theorem dX11_tells0_54 : decode cX11_tells0 54 = .ok (.return_, 1) := by decide +kernel
theorem dX11_tells0_55 : decode cX11_tells0 55 = .ok (.iconst 0, 1) := by decide +kernel
theorem dX11_tells0_56 : decode cX11_tells0 56 = .ok (.istore_n 2, 1) := by decide +kernel
theorem dX11_tells0_57 : decode cX11_tells0 57 = .ok (.iload_n 2, 1) := by decide +kernel
theorem dX11_tells0_58 : decode cX11_tells0 58 = .ok (.iload_n 1, 1) := by decide +kernel
theorem dX11_tells0_59 : decode cX11_tells0 59 = .ok (.if_icmp .ge 33, 3) := by decide +kernel
theorem dX11_tells0_62 : decode cX11_tells0 62 = .ok (.aload_n 0, 1) := by decide +kernel
theorem dX11_tells0_63 : decode cX11_tells0 63 = .ok (.getfield 81, 3) := by decide +kernel
theorem dX11_tells0_66 : decode cX11_tells0 66 = .ok (.iconst 4, 1) := by decide +kernel
theorem dX11_tells0_67 : decode cX11_tells0 67 = .ok (.aload_n 0, 1) := by decide +kernel
theorem dX11_tells0_68 : decode cX11_tells0 68 = .ok (.getfield 247, 3) := by decide +kernel
theorem dX11_tells0_71 : decode cX11_tells0 71 = .ok (.imul, 1) := by decide +kernel
theorem dX11_tells0_72 : decode cX11_tells0 72 = .ok (.iload_n 2, 1) := by decide +kernel
theorem dX11_tells0_73 : decode cX11_tells0 73 = .ok (.iadd, 1) := by decide +kernel
theorem dX11_tells0_74 : decode cX11_tells0 74 = .ok (.aload_n 0, 1) := by decide +kernel
theorem dX11_tells0_75 : decode cX11_tells0 75 = .ok (.getfield 71, 3) := by decide +kernel
theorem dX11_tells0_78 : decode cX11_tells0 78 = .ok (.aload_n 0, 1) := by decide +kernel
theorem dX11_tells0_79 : decode cX11_tells0 79 = .ok (.getfield 157, 3) := by decide +kernel
theorem dX11_tells0_82 : decode cX11_tells0 82 = .ok (.iload_n 2, 1) := by decide +kernel
theorem dX11_tells0_83 : decode cX11_tells0 83 = .ok (.iadd, 1) := by decide +kernel
theorem dX11_tells0_84 : decode cX11_tells0 84 = .ok (.baload, 1) := by decide +kernel
theorem dX11_tells0_85 : decode cX11_tells0 85 = .ok (.iastore, 1) := by decide +kernel
theorem dX11_tells0_86 : decode cX11_tells0 86 = .ok (.iinc 2 1, 3) := by decide +kernel
theorem dX11_tells0_89 : decode cX11_tells0 89 = .ok (.goto (-32), 3) := by decide +kernel
theorem dX11_tells0_92 : decode cX11_tells0 92 = .ok (.aload_n 0, 1) := by decide +kernel
theorem dX11_tells0_93 : decode cX11_tells0 93 = .ok (.getfield 84, 3) := by decide +kernel
theorem dX11_tells0_96 : decode cX11_tells0 96 = .ok (.aload_n 0, 1) := by decide +kernel
theorem dX11_tells0_97 : decode cX11_tells0 97 = .ok (.getfield 247, 3) := by decide +kernel
theorem dX11_tells0_100 : decode cX11_tells0 100 = .ok (.iload_n 1, 1) := by decide +kernel
theorem dX11_tells0_101 : decode cX11_tells0 101 = .ok (.iastore, 1) := by decide +kernel
theorem dX11_tells0_102 : decode cX11_tells0 102 = .ok (.aload_n 0, 1) := by decide +kernel
theorem dX11_tells0_103 : decode cX11_tells0 103 = .ok (.dup, 1) := by decide +kernel
theorem dX11_tells0_104 : decode cX11_tells0 104 = .ok (.getfield 247, 3) := by decide +kernel
theorem dX11_tells0_107 : decode cX11_tells0 107 = .ok (.iconst 1, 1) := by decide +kernel
theorem dX11_tells0_108 : decode cX11_tells0 108 = .ok (.iadd, 1) := by decide +kernel
theorem dX11_tells0_109 : decode cX11_tells0 109 = .ok (.putfield 247, 3) := by decide +kernel
theorem dX11_tells0_112 : decode cX11_tells0 112 = .ok (.aload_n 0, 1) := by decide +kernel
theorem dX11_tells0_113 : decode cX11_tells0 113 = .ok (.dup, 1) := by decide +kernel
theorem dX11_tells0_114 : decode cX11_tells0 114 = .ok (.getfield 157, 3) := by decide +kernel
theorem dX11_tells0_117 : decode cX11_tells0 117 = .ok (.iload_n 1, 1) := by decide +kernel
theorem dX11_tells0_118 : decode cX11_tells0 118 = .ok (.iadd, 1) := by decide +kernel
theorem dX11_tells0_119 : decode cX11_tells0 119 = .ok (.putfield 157, 3) := by decide +kernel
theorem dX11_tells0_122 : decode cX11_tells0 122 = .ok (.return_, 1) := by decide +kernel
theorem dX11_readTerm_0 : decode cX11_readTerm 0 = .ok (.aload_n 0, 1) := by decide +kernel
theorem dX11_readTerm_1 : decode cX11_readTerm 1 = .ok (.getfield 163, 3) := by decide +kernel
theorem dX11_readTerm_4 : decode cX11_readTerm 4 = .ok (.ifCond .eq 4, 3) := by decide +kernel
theorem dX11_readTerm_7 : decode cX11_readTerm 7 = .ok (.return_, 1) := by decide +kernel
theorem dX11_readTerm_8 : decode cX11_readTerm 8 = .ok (.aload_n 0, 1) := by decide +kernel
theorem dX11_readTerm_9 : decode cX11_readTerm 9 = .ok (.invokevirtual 204, 3) := by decide +kernel
theorem dX11_readTerm_12 : decode cX11_readTerm 12 = .ok (.istore_n 1, 1) := by decide +kernel
theorem dX11_readTerm_13 : decode cX11_readTerm 13 = .ok (.aload_n 0, 1) := by decide +kernel
theorem dX11_readTerm_14 : decode cX11_readTerm 14 = .ok (.getfield 157, 3) := by decide +kernel
theorem dX11_readTerm_17 : decode cX11_readTerm 17 = .ok (.istore_n 2, 1) := by decide +kernel
theorem dX11_readTerm_18 : decode cX11_readTerm 18 = .ok (.aload_n 0, 1) := by decide +kernel
theorem dX11_readTerm_19 : decode cX11_readTerm 19 = .ok (.invokevirtual 221, 3) := by decide +kernel
theorem dX11_readTerm_22 : decode cX11_readTerm 22 = .ok (.istore_n 3, 1) := by decide +kernel
theorem dX11_readTerm_23 : decode cX11_readTerm 23 = .ok (.iload_n 3, 1) := by decide +kernel
theorem dX11_readTerm_24 : decode cX11_readTerm 24 = .ok (.ifCond .le 10, 3) := by decide +kernel
theorem dX11_readTerm_27 : decode cX11_readTerm 27 = .ok (.aload_n 0, 1) := by decide +kernel
theorem dX11_readTerm_28 : decode cX11_readTerm 28 = .ok (.iload_n 2, 1) := by decide +kernel
theorem dX11_readTerm_29 : decode cX11_readTerm 29 = .ok (.iload_n 3, 1) := by decide +kernel
theorem dX11_readTerm_30 : decode cX11_readTerm 30 = .ok (.invokevirtual 258, 3) := by decide +kernel
theorem dX11_readTerm_33 : decode cX11_readTerm 33 = .ok (.return_, 1) := by decide +kernel
theorem dX11_readTerm_34 : decode cX11_readTerm 34 = .ok (.iload_n 1, 1) := by decide +kernel
theorem dX11_readTerm_35 : decode cX11_readTerm 35 = .ok (.i2l, 1) := by decide +kernel
theorem dX11_readTerm_36 : decode cX11_readTerm 36 = .ok (.ldc2_w 261, 3) := by decide +kernel
theorem dX11_readTerm_39 : decode cX11_readTerm 39 = .ok (.ldc2_w 263, 3) := by decide +kernel
theorem dX11_readTerm_42 : decode cX11_readTerm 42 = .ok (.invokestatic 180, 3) := by decide +kernel
theorem dX11_readTerm_45 : decode cX11_readTerm 45 = .ok (.ifCond .ne 10, 3) := by decide +kernel
theorem dX11_readTerm_48 : decode cX11_readTerm 48 = .ok (.aload_n 0, 1) := by decide +kernel
theorem dX11_readTerm_49 : decode cX11_readTerm 49 = .ok (.iconst 1, 1) := by decide +kernel
theorem dX11_readTerm_50 : decode cX11_readTerm 50 = .ok (.iload_n 2, 1) := by decide +kernel
theorem dX11_readTerm_51 : decode cX11_readTerm 51 = .ok (.invokevirtual 209, 3) := by decide +kernel
theorem dX11_readTerm_54 : decode cX11_readTerm 54 = .ok (.return_, 1) := by decide +kernel
theorem dX11_readTerm_55 : decode cX11_readTerm 55 = .ok (.aload_n 0, 1) := by decide +kernel
theorem dX11_readTerm_56 : decode cX11_readTerm 56 = .ok (.getfield 151, 3) := by decide +kernel
theorem dX11_readTerm_59 : decode cX11_readTerm 59 = .ok (.istore 4, 2) := by decide +kernel
theorem dX11_readTerm_61 : decode cX11_readTerm 61 = .ok (.iload_n 1, 1) := by decide +kernel
theorem dX11_readTerm_62 : decode cX11_readTerm 62 = .ok (.bipush 13, 2) := by decide +kernel
theorem dX11_readTerm_64 : decode cX11_readTerm 64 = .ok (.isub, 1) := by decide +kernel
theorem dX11_readTerm_65 : decode cX11_readTerm 65 = .ok (.iconst 1, 1) := by decide +kernel
theorem dX11_readTerm_66 : decode cX11_readTerm 66 = .ok (.iadd, 1) := by decide +kernel
theorem dX11_readTerm_67 : decode cX11_readTerm 67 = .ok (.istore 5, 2) := by decide +kernel
theorem dX11_readTerm_69 : decode cX11_readTerm 69 = .ok (.aload_n 0, 1) := by decide +kernel
theorem dX11_readTerm_70 : decode cX11_readTerm 70 = .ok (.iload_n 2, 1) := by decide +kernel
theorem dX11_readTerm_71 : decode cX11_readTerm 71 = .ok (.iload 5, 2) := by decide +kernel
theorem dX11_readTerm_73 : decode cX11_readTerm 73 = .ok (.iconst (-1), 1) := by decide +kernel
theorem dX11_readTerm_74 : decode cX11_readTerm 74 = .ok (.invokevirtual 254, 3) := by decide +kernel
theorem dX11_readTerm_77 : decode cX11_readTerm 77 = .ok (.iload 5, 2) := by decide +kernel
theorem dX11_readTerm_79 : decode cX11_readTerm 79 = .ok (.iconst 1, 1) := by decide +kernel
theorem dX11_readTerm_80 : decode cX11_readTerm 80 = .ok (.if_icmp .ne 7, 3) := by decide +kernel
theorem dX11_readTerm_83 : decode cX11_readTerm 83 = .ok (.aload_n 0, 1) := by decide +kernel
theorem dX11_readTerm_84 : decode cX11_readTerm 84 = .ok (.invokevirtual 265, 3) := by decide +kernel
theorem dX11_readTerm_87 : decode cX11_readTerm 87 = .ok (.iload 5, 2) := by decide +kernel
theorem dX11_readTerm_89 : decode cX11_readTerm 89 = .ok (.iconst 1, 1) := by decide +kernel
theorem dX11_readTerm_90 : decode cX11_readTerm 90 = .ok (.if_icmp .eq 24, 3) := by decide +kernel
theorem dX11_readTerm_93 : decode cX11_readTerm 93 = .ok (.iload 5, 2) := by decide +kernel
theorem dX11_readTerm_95 : decode cX11_readTerm 95 = .ok (.bipush 6, 2) := by decide +kernel
theorem dX11_readTerm_97 : decode cX11_readTerm 97 = .ok (.if_icmp .eq 17, 3) := by decide +kernel
theorem dX11_readTerm_100 : decode cX11_readTerm 100 = .ok (.iload 5, 2) := by decide +kernel
theorem dX11_readTerm_102 : decode cX11_readTerm 102 = .ok (.bipush 7, 2) := by decide +kernel
theorem dX11_readTerm_104 : decode cX11_readTerm 104 = .ok (.if_icmp .eq 10, 3) := by decide +kernel
theorem dX11_readTerm_107 : decode cX11_readTerm 107 = .ok (.iload 5, 2) := by decide +kernel
theorem dX11_readTerm_109 : decode cX11_readTerm 109 = .ok (.bipush 9, 2) := by decide +kernel
theorem dX11_readTerm_111 : decode cX11_readTerm 111 = .ok (.if_icmp .ne 14, 3) := by decide +kernel
theorem dX11_readTerm_114 : decode cX11_readTerm 114 = .ok (.aload_n 0, 1) := by decide +kernel
theorem dX11_readTerm_115 : decode cX11_readTerm 115 = .ok (.getfield 62, 3) := by decide +kernel
theorem dX11_readTerm_118 : decode cX11_readTerm 118 = .ok (.iload 4, 2) := by decide +kernel
theorem dX11_readTerm_120 : decode cX11_readTerm 120 = .ok (.aload_n 0, 1) := by decide +kernel
theorem dX11_readTerm_121 : decode cX11_readTerm 121 = .ok (.invokevirtual 231, 3) := by decide +kernel
theorem dX11_readTerm_124 : decode cX11_readTerm 124 = .ok (.iastore, 1) := by decide +kernel
theorem dX11_readTerm_125 : decode cX11_readTerm 125 = .ok (.aload_n 0, 1) := by decide +kernel
theorem dX11_readTerm_126 : decode cX11_readTerm 126 = .ok (.invokevirtual 268, 3) := by decide +kernel
theorem dX11_readTerm_129 : decode cX11_readTerm 129 = .ok (.iload 5, 2) := by decide +kernel
theorem dX11_readTerm_131 : decode cX11_readTerm 131 = .ok (.iconst 1, 1) := by decide +kernel
theorem dX11_readTerm_132 : decode cX11_readTerm 132 = .ok (.if_icmp .ne 13, 3) := by decide +kernel
theorem dX11_readTerm_135 : decode cX11_readTerm 135 = .ok (.aload_n 0, 1) := by decide +kernel
theorem dX11_readTerm_136 : decode cX11_readTerm 136 = .ok (.dup, 1) := by decide +kernel
theorem dX11_readTerm_137 : decode cX11_readTerm 137 = .ok (.getfield 247, 3) := by decide +kernel
theorem dX11_readTerm_140 : decode cX11_readTerm 140 = .ok (.iconst 1, 1) := by decide +kernel
theorem dX11_readTerm_141 : decode cX11_readTerm 141 = .ok (.isub, 1) := by decide +kernel
theorem dX11_readTerm_142 : decode cX11_readTerm 142 = .ok (.putfield 247, 3) := by decide +kernel
theorem dX11_readTerm_145 : decode cX11_readTerm 145 = .ok (.iload 5, 2) := by decide +kernel
theorem dX11_readTerm_147 : decode cX11_readTerm 147 = .ok (.iconst 2, 1) := by decide +kernel
theorem dX11_readTerm_148 : decode cX11_readTerm 148 = .ok (.if_icmp .eq 9, 3) := by decide +kernel
theorem dX11_readTerm_151 : decode cX11_readTerm 151 = .ok (.iload 5, 2) := by decide +kernel
theorem dX11_readTerm_153 : decode cX11_readTerm 153 = .ok (.iconst 3, 1) := by decide +kernel
theorem dX11_readTerm_154 : decode cX11_readTerm 154 = .ok (.if_icmp .ne 7, 3) := by decide +kernel
theorem dX11_readTerm_157 : decode cX11_readTerm 157 = .ok (.aload_n 0, 1) := by decide +kernel
theorem dX11_readTerm_158 : decode cX11_readTerm 158 = .ok (.invokevirtual 268, 3) := by decide +kernel
theorem dX11_readTerm_161 : decode cX11_readTerm 161 = .ok (.iconst 0, 1) := by decide +kernel
theorem dX11_readTerm_162 : decode cX11_readTerm 162 = .ok (.istore 6, 2) := by decide +kernel
theorem dX11_readTerm_164 : decode cX11_readTerm 164 = .ok (.iload 6, 2) := by decide +kernel
theorem dX11_readTerm_166 : decode cX11_readTerm 166 = .ok (.iconst 2, 1) := by decide +kernel
theorem dX11_readTerm_167 : decode cX11_readTerm 167 = .ok (.if_icmp .ge 41, 3) := by decide +kernel
theorem dX11_readTerm_170 : decode cX11_readTerm 170 = .ok (.iload 5, 2) := by decide +kernel
theorem dX11_readTerm_172 : decode cX11_readTerm 172 = .ok (.bipush 8, 2) := by decide +kernel
theorem dX11_readTerm_174 : decode cX11_readTerm 174 = .ok (.if_icmp .ne 34, 3) := by decide +kernel
theorem dX11_readTerm_177 : decode cX11_readTerm 177 = .ok (.aload_n 0, 1) := by decide +kernel
theorem dX11_readTerm_178 : decode cX11_readTerm 178 = .ok (.getfield 163, 3) := by decide +kernel
theorem dX11_readTerm_181 : decode cX11_readTerm 181 = .ok (.ifCond .ne 27, 3) := by decide +kernel
theorem dX11_readTerm_184 : decode cX11_readTerm 184 = .ok (.aload_n 0, 1) := by decide +kernel
theorem dX11_readTerm_185 : decode cX11_readTerm 185 = .ok (.invokevirtual 265, 3) := by decide +kernel
theorem dX11_readTerm_188 : decode cX11_readTerm 188 = .ok (.aload_n 0, 1) := by decide +kernel
theorem dX11_readTerm_189 : decode cX11_readTerm 189 = .ok (.invokevirtual 268, 3) := by decide +kernel
theorem dX11_readTerm_192 : decode cX11_readTerm 192 = .ok (.aload_n 0, 1) := by decide +kernel
theorem dX11_readTerm_193 : decode cX11_readTerm 193 = .ok (.dup, 1) := by decide +kernel
theorem dX11_readTerm_194 : decode cX11_readTerm 194 = .ok (.getfield 247, 3) := by decide +kernel
theorem dX11_readTerm_197 : decode cX11_readTerm 197 = .ok (.iconst 1, 1) := by decide +kernel
theorem dX11_readTerm_198 : decode cX11_readTerm 198 = .ok (.isub, 1) := by decide +kernel
theorem dX11_readTerm_199 : decode cX11_readTerm 199 = .ok (.putfield 247, 3) := by decide +kernel
theorem dX11_readTerm_202 : decode cX11_readTerm 202 = .ok (.iinc 6 1, 3) := by decide +kernel
theorem dX11_readTerm_205 : decode cX11_readTerm 205 = .ok (.goto (-41), 3) := by decide +kernel
theorem dX11_readTerm_208 : decode cX11_readTerm 208 = .ok (.return_, 1) := by decide +kernel
theorem dX11_proof_0 : decode cX11_proof 0 = .ok (.aload_n 0, 1) := by decide +kernel
theorem dX11_proof_1 : decode cX11_proof 1 = .ok (.iconst 0, 1) := by decide +kernel
theorem dX11_proof_2 : decode cX11_proof 2 = .ok (.putfield 1, 3) := by decide +kernel
theorem dX11_proof_5 : decode cX11_proof 5 = .ok (.iload_n 1, 1) := by decide +kernel
theorem dX11_proof_6 : decode cX11_proof 6 = .ok (.invokestatic 271, 3) := by decide +kernel
theorem dX11_proof_9 : decode cX11_proof 9 = .ok (.ifCond .ne 6, 3) := by decide +kernel
theorem dX11_proof_12 : decode cX11_proof 12 = .ok (.bipush (-2), 2) := by decide +kernel
theorem dX11_proof_14 : decode cX11_proof 14 = .ok (.ireturn, 1) := by decide +kernel
theorem dX11_proof_15 : decode cX11_proof 15 = .ok (.iload_n 2, 1) := by decide +kernel
theorem dX11_proof_16 : decode cX11_proof 16 = .ok (.i2l, 1) := by decide +kernel
theorem dX11_proof_17 : decode cX11_proof 17 = .ok (.lconst 0, 1) := by decide +kernel
theorem dX11_proof_18 : decode cX11_proof 18 = .ok (.aload_n 0, 1) := by decide +kernel
theorem dX11_proof_19 : decode cX11_proof 19 = .ok (.getfield 154, 3) := by decide +kernel
theorem dX11_proof_22 : decode cX11_proof 22 = .ok (.i2l, 1) := by decide +kernel
theorem dX11_proof_23 : decode cX11_proof 23 = .ok (.invokestatic 180, 3) := by decide +kernel
theorem dX11_proof_26 : decode cX11_proof 26 = .ok (.ifCond .ne 6, 3) := by decide +kernel
theorem dX11_proof_29 : decode cX11_proof 29 = .ok (.bipush (-3), 2) := by decide +kernel
theorem dX11_proof_31 : decode cX11_proof 31 = .ok (.ireturn, 1) := by decide +kernel
theorem dX11_proof_32 : decode cX11_proof 32 = .ok (.aload_n 0, 1) := by decide +kernel
theorem dX11_proof_33 : decode cX11_proof 33 = .ok (.iconst 0, 1) := by decide +kernel
theorem dX11_proof_34 : decode cX11_proof 34 = .ok (.putfield 151, 3) := by decide +kernel
theorem dX11_proof_37 : decode cX11_proof 37 = .ok (.aload_n 0, 1) := by decide +kernel
theorem dX11_proof_38 : decode cX11_proof 38 = .ok (.iload_n 2, 1) := by decide +kernel
theorem dX11_proof_39 : decode cX11_proof 39 = .ok (.invokevirtual 234, 3) := by decide +kernel
theorem dX11_proof_42 : decode cX11_proof 42 = .ok (.aload_n 0, 1) := by decide +kernel
theorem dX11_proof_43 : decode cX11_proof 43 = .ok (.iconst 0, 1) := by decide +kernel
theorem dX11_proof_44 : decode cX11_proof 44 = .ok (.putfield 247, 3) := by decide +kernel
theorem dX11_proof_47 : decode cX11_proof 47 = .ok (.aload_n 0, 1) := by decide +kernel
theorem dX11_proof_48 : decode cX11_proof 48 = .ok (.invokevirtual 268, 3) := by decide +kernel
theorem dX11_proof_51 : decode cX11_proof 51 = .ok (.aload_n 0, 1) := by decide +kernel
theorem dX11_proof_52 : decode cX11_proof 52 = .ok (.getfield 163, 3) := by decide +kernel
theorem dX11_proof_55 : decode cX11_proof 55 = .ok (.ifCond .ne 19, 3) := by decide +kernel
theorem dX11_proof_58 : decode cX11_proof 58 = .ok (.aload_n 0, 1) := by decide +kernel
theorem dX11_proof_59 : decode cX11_proof 59 = .ok (.invokevirtual 237, 3) := by decide +kernel
theorem dX11_proof_62 : decode cX11_proof 62 = .ok (.ifCond .ne 12, 3) := by decide +kernel
theorem dX11_proof_65 : decode cX11_proof 65 = .ok (.aload_n 0, 1) := by decide +kernel
theorem dX11_proof_66 : decode cX11_proof 66 = .ok (.iconst 1, 1) := by decide +kernel
theorem dX11_proof_67 : decode cX11_proof 67 = .ok (.aload_n 0, 1) := by decide +kernel
theorem dX11_proof_68 : decode cX11_proof 68 = .ok (.getfield 157, 3) := by decide +kernel
theorem dX11_proof_71 : decode cX11_proof 71 = .ok (.invokevirtual 209, 3) := by decide +kernel
theorem dX11_proof_74 : decode cX11_proof 74 = .ok (.aload_n 0, 1) := by decide +kernel
theorem dX11_proof_75 : decode cX11_proof 75 = .ok (.getfield 163, 3) := by decide +kernel
theorem dX11_proof_78 : decode cX11_proof 78 = .ok (.ifCond .ne 8, 3) := by decide +kernel
theorem dX11_proof_81 : decode cX11_proof 81 = .ok (.aload_n 0, 1) := by decide +kernel
theorem dX11_proof_82 : decode cX11_proof 82 = .ok (.invokevirtual 275, 3) := by decide +kernel
theorem dX11_proof_85 : decode cX11_proof 85 = .ok (.pop, 1) := by decide +kernel
theorem dX11_proof_86 : decode cX11_proof 86 = .ok (.aload_n 0, 1) := by decide +kernel
theorem dX11_proof_87 : decode cX11_proof 87 = .ok (.invokevirtual 244, 3) := by decide +kernel
theorem dX11_proof_90 : decode cX11_proof 90 = .ok (.ifCond .eq 11, 3) := by decide +kernel
theorem dX11_proof_93 : decode cX11_proof 93 = .ok (.bipush (-30), 2) := by decide +kernel
theorem dX11_proof_95 : decode cX11_proof 95 = .ok (.aload_n 0, 1) := by decide +kernel
theorem dX11_proof_96 : decode cX11_proof 96 = .ok (.getfield 163, 3) := by decide +kernel
theorem dX11_proof_99 : decode cX11_proof 99 = .ok (.isub, 1) := by decide +kernel
theorem dX11_proof_100 : decode cX11_proof 100 = .ok (.ireturn, 1) := by decide +kernel
theorem dX11_proof_101 : decode cX11_proof 101 = .ok (.aload_n 0, 1) := by decide +kernel
theorem dX11_proof_102 : decode cX11_proof 102 = .ok (.iload_n 1, 1) := by decide +kernel
theorem dX11_proof_103 : decode cX11_proof 103 = .ok (.invokevirtual 278, 3) := by decide +kernel
theorem dX11_proof_106 : decode cX11_proof 106 = .ok (.aload_n 0, 1) := by decide +kernel
theorem dX11_proof_107 : decode cX11_proof 107 = .ok (.getfield 151, 3) := by decide +kernel
theorem dX11_proof_110 : decode cX11_proof 110 = .ok (.ireturn, 1) := by decide +kernel
theorem dX11_fault_0 : decode cX11_fault 0 = .ok (.aload_n 0, 1) := by decide +kernel
theorem dX11_fault_1 : decode cX11_fault 1 = .ok (.iconst 0, 1) := by decide +kernel
theorem dX11_fault_2 : decode cX11_fault 2 = .ok (.putfield 1, 3) := by decide +kernel
theorem dX11_fault_5 : decode cX11_fault 5 = .ok (.iload_n 1, 1) := by decide +kernel
theorem dX11_fault_6 : decode cX11_fault 6 = .ok (.ifCond .ne 10, 3) := by decide +kernel
theorem dX11_fault_9 : decode cX11_fault 9 = .ok (.aload_n 0, 1) := by decide +kernel
theorem dX11_fault_10 : decode cX11_fault 10 = .ok (.getfield 201, 3) := by decide +kernel
theorem dX11_fault_13 : decode cX11_fault 13 = .ok (.goto 16, 3) := by decide +kernel
theorem dX11_fault_16 : decode cX11_fault 16 = .ok (.iload_n 1, 1) := by decide +kernel
theorem dX11_fault_17 : decode cX11_fault 17 = .ok (.iconst 1, 1) := by decide +kernel
theorem dX11_fault_18 : decode cX11_fault 18 = .ok (.if_icmp .ne 10, 3) := by decide +kernel
theorem dX11_fault_21 : decode cX11_fault 21 = .ok (.aload_n 0, 1) := by decide +kernel
theorem dX11_fault_22 : decode cX11_fault 22 = .ok (.getfield 75, 3) := by decide +kernel
theorem dX11_fault_25 : decode cX11_fault 25 = .ok (.goto 4, 3) := by decide +kernel
theorem dX11_fault_28 : decode cX11_fault 28 = .ok (.iconst (-1), 1) := by decide +kernel
theorem dX11_fault_29 : decode cX11_fault 29 = .ok (.ireturn, 1) := by decide +kernel
theorem dX11_isSlot_0 : decode cX11_isSlot 0 = .ok (.iload_n 0, 1) := by decide +kernel
theorem dX11_isSlot_1 : decode cX11_isSlot 1 = .ok (.i2l, 1) := by decide +kernel
theorem dX11_isSlot_2 : decode cX11_isSlot 2 = .ok (.lconst 0, 1) := by decide +kernel
theorem dX11_isSlot_3 : decode cX11_isSlot 3 = .ok (.ldc2_w 281, 3) := by decide +kernel
theorem dX11_isSlot_6 : decode cX11_isSlot 6 = .ok (.invokestatic 180, 3) := by decide +kernel
theorem dX11_isSlot_9 : decode cX11_isSlot 9 = .ok (.ireturn, 1) := by decide +kernel
theorem dX11_isEmpty_0 : decode cX11_isEmpty 0 = .ok (.aload_n 0, 1) := by decide +kernel
theorem dX11_isEmpty_1 : decode cX11_isEmpty 1 = .ok (.getfield 56, 3) := by decide +kernel
theorem dX11_isEmpty_4 : decode cX11_isEmpty 4 = .ok (.iload_n 1, 1) := by decide +kernel
theorem dX11_isEmpty_5 : decode cX11_isEmpty 5 = .ok (.iaload, 1) := by decide +kernel
theorem dX11_isEmpty_6 : decode cX11_isEmpty 6 = .ok (.ifCond .ne 7, 3) := by decide +kernel
theorem dX11_isEmpty_9 : decode cX11_isEmpty 9 = .ok (.iconst 1, 1) := by decide +kernel
theorem dX11_isEmpty_10 : decode cX11_isEmpty 10 = .ok (.goto 4, 3) := by decide +kernel
theorem dX11_isEmpty_13 : decode cX11_isEmpty 13 = .ok (.iconst 0, 1) := by decide +kernel
theorem dX11_isEmpty_14 : decode cX11_isEmpty 14 = .ok (.ireturn, 1) := by decide +kernel
theorem dX11_stores_0 : decode cX11_stores 0 = .ok (.aload_n 0, 1) := by decide +kernel
theorem dX11_stores_1 : decode cX11_stores 1 = .ok (.getfield 56, 3) := by decide +kernel
theorem dX11_stores_4 : decode cX11_stores 4 = .ok (.iload_n 1, 1) := by decide +kernel
theorem dX11_stores_5 : decode cX11_stores 5 = .ok (.aload_n 0, 1) := by decide +kernel
theorem dX11_stores_6 : decode cX11_stores 6 = .ok (.getfield 151, 3) := by decide +kernel
theorem dX11_stores_9 : decode cX11_stores 9 = .ok (.iastore, 1) := by decide +kernel
theorem dX11_stores_10 : decode cX11_stores 10 = .ok (.iconst 0, 1) := by decide +kernel
theorem dX11_stores_11 : decode cX11_stores 11 = .ok (.istore_n 2, 1) := by decide +kernel
theorem dX11_stores_12 : decode cX11_stores 12 = .ok (.iload_n 2, 1) := by decide +kernel
theorem dX11_stores_13 : decode cX11_stores 13 = .ok (.aload_n 0, 1) := by decide +kernel
theorem dX11_stores_14 : decode cX11_stores 14 = .ok (.getfield 151, 3) := by decide +kernel
theorem dX11_stores_17 : decode cX11_stores 17 = .ok (.if_icmp .ge 45, 3) := by decide +kernel
theorem dX11_stores_20 : decode cX11_stores 20 = .ok (.aload_n 0, 1) := by decide +kernel
theorem dX11_stores_21 : decode cX11_stores 21 = .ok (.getfield 50, 3) := by decide +kernel
theorem dX11_stores_24 : decode cX11_stores 24 = .ok (.sipush 200, 3) := by decide +kernel
theorem dX11_stores_27 : decode cX11_stores 27 = .ok (.iload_n 1, 1) := by decide +kernel
theorem dX11_stores_28 : decode cX11_stores 28 = .ok (.imul, 1) := by decide +kernel
theorem dX11_stores_29 : decode cX11_stores 29 = .ok (.iload_n 2, 1) := by decide +kernel
theorem dX11_stores_30 : decode cX11_stores 30 = .ok (.iadd, 1) := by decide +kernel
theorem dX11_stores_31 : decode cX11_stores 31 = .ok (.aload_n 0, 1) := by decide +kernel
theorem dX11_stores_32 : decode cX11_stores 32 = .ok (.getfield 59, 3) := by decide +kernel
theorem dX11_stores_35 : decode cX11_stores 35 = .ok (.iload_n 2, 1) := by decide +kernel
theorem dX11_stores_36 : decode cX11_stores 36 = .ok (.iaload, 1) := by decide +kernel
theorem dX11_stores_37 : decode cX11_stores 37 = .ok (.iastore, 1) := by decide +kernel
theorem dX11_stores_38 : decode cX11_stores 38 = .ok (.aload_n 0, 1) := by decide +kernel
theorem dX11_stores_39 : decode cX11_stores 39 = .ok (.getfield 53, 3) := by decide +kernel
theorem dX11_stores_42 : decode cX11_stores 42 = .ok (.sipush 200, 3) := by decide +kernel
theorem dX11_stores_45 : decode cX11_stores 45 = .ok (.iload_n 1, 1) := by decide +kernel
theorem dX11_stores_46 : decode cX11_stores 46 = .ok (.imul, 1) := by decide +kernel
theorem dX11_stores_47 : decode cX11_stores 47 = .ok (.iload_n 2, 1) := by decide +kernel
theorem dX11_stores_48 : decode cX11_stores 48 = .ok (.iadd, 1) := by decide +kernel
theorem dX11_stores_49 : decode cX11_stores 49 = .ok (.aload_n 0, 1) := by decide +kernel
theorem dX11_stores_50 : decode cX11_stores 50 = .ok (.getfield 62, 3) := by decide +kernel
theorem dX11_stores_53 : decode cX11_stores 53 = .ok (.iload_n 2, 1) := by decide +kernel
theorem dX11_stores_54 : decode cX11_stores 54 = .ok (.iaload, 1) := by decide +kernel
theorem dX11_stores_55 : decode cX11_stores 55 = .ok (.iastore, 1) := by decide +kernel
theorem dX11_stores_56 : decode cX11_stores 56 = .ok (.iinc 2 1, 3) := by decide +kernel
theorem dX11_stores_59 : decode cX11_stores 59 = .ok (.goto (-47), 3) := by decide +kernel
theorem dX11_stores_62 : decode cX11_stores 62 = .ok (.return_, 1) := by decide +kernel
theorem dX11_takes_0 : decode cX11_takes 0 = .ok (.aload_n 0, 1) := by decide +kernel
theorem dX11_takes_1 : decode cX11_takes 1 = .ok (.iconst 0, 1) := by decide +kernel
theorem dX11_takes_2 : decode cX11_takes 2 = .ok (.putfield 151, 3) := by decide +kernel
theorem dX11_takes_5 : decode cX11_takes 5 = .ok (.aload_n 0, 1) := by decide +kernel
theorem dX11_takes_6 : decode cX11_takes 6 = .ok (.invokevirtual 198, 3) := by decide +kernel
theorem dX11_takes_9 : decode cX11_takes 9 = .ok (.aload_n 0, 1) := by decide +kernel
theorem dX11_takes_10 : decode cX11_takes 10 = .ok (.aload_n 0, 1) := by decide +kernel
theorem dX11_takes_11 : decode cX11_takes 11 = .ok (.getfield 56, 3) := by decide +kernel
theorem dX11_takes_14 : decode cX11_takes 14 = .ok (.iload_n 1, 1) := by decide +kernel
theorem dX11_takes_15 : decode cX11_takes 15 = .ok (.iaload, 1) := by decide +kernel
theorem dX11_takes_16 : decode cX11_takes 16 = .ok (.putfield 151, 3) := by decide +kernel
theorem dX11_takes_19 : decode cX11_takes 19 = .ok (.iconst 0, 1) := by decide +kernel
theorem dX11_takes_20 : decode cX11_takes 20 = .ok (.istore_n 2, 1) := by decide +kernel
theorem dX11_takes_21 : decode cX11_takes 21 = .ok (.iload_n 2, 1) := by decide +kernel
theorem dX11_takes_22 : decode cX11_takes 22 = .ok (.aload_n 0, 1) := by decide +kernel
theorem dX11_takes_23 : decode cX11_takes 23 = .ok (.getfield 151, 3) := by decide +kernel
theorem dX11_takes_26 : decode cX11_takes 26 = .ok (.if_icmp .ge 45, 3) := by decide +kernel
theorem dX11_takes_29 : decode cX11_takes 29 = .ok (.aload_n 0, 1) := by decide +kernel
theorem dX11_takes_30 : decode cX11_takes 30 = .ok (.getfield 59, 3) := by decide +kernel
theorem dX11_takes_33 : decode cX11_takes 33 = .ok (.iload_n 2, 1) := by decide +kernel
theorem dX11_takes_34 : decode cX11_takes 34 = .ok (.aload_n 0, 1) := by decide +kernel
theorem dX11_takes_35 : decode cX11_takes 35 = .ok (.getfield 50, 3) := by decide +kernel
theorem dX11_takes_38 : decode cX11_takes 38 = .ok (.sipush 200, 3) := by decide +kernel
theorem dX11_takes_41 : decode cX11_takes 41 = .ok (.iload_n 1, 1) := by decide +kernel
theorem dX11_takes_42 : decode cX11_takes 42 = .ok (.imul, 1) := by decide +kernel
theorem dX11_takes_43 : decode cX11_takes 43 = .ok (.iload_n 2, 1) := by decide +kernel
theorem dX11_takes_44 : decode cX11_takes 44 = .ok (.iadd, 1) := by decide +kernel
theorem dX11_takes_45 : decode cX11_takes 45 = .ok (.iaload, 1) := by decide +kernel
theorem dX11_takes_46 : decode cX11_takes 46 = .ok (.iastore, 1) := by decide +kernel
theorem dX11_takes_47 : decode cX11_takes 47 = .ok (.aload_n 0, 1) := by decide +kernel
theorem dX11_takes_48 : decode cX11_takes 48 = .ok (.getfield 62, 3) := by decide +kernel
theorem dX11_takes_51 : decode cX11_takes 51 = .ok (.iload_n 2, 1) := by decide +kernel
theorem dX11_takes_52 : decode cX11_takes 52 = .ok (.aload_n 0, 1) := by decide +kernel
theorem dX11_takes_53 : decode cX11_takes 53 = .ok (.getfield 53, 3) := by decide +kernel
theorem dX11_takes_56 : decode cX11_takes 56 = .ok (.sipush 200, 3) := by decide +kernel
theorem dX11_takes_59 : decode cX11_takes 59 = .ok (.iload_n 1, 1) := by decide +kernel
theorem dX11_takes_60 : decode cX11_takes 60 = .ok (.imul, 1) := by decide +kernel
theorem dX11_takes_61 : decode cX11_takes 61 = .ok (.iload_n 2, 1) := by decide +kernel
theorem dX11_takes_62 : decode cX11_takes 62 = .ok (.iadd, 1) := by decide +kernel
theorem dX11_takes_63 : decode cX11_takes 63 = .ok (.iaload, 1) := by decide +kernel
theorem dX11_takes_64 : decode cX11_takes 64 = .ok (.iastore, 1) := by decide +kernel
theorem dX11_takes_65 : decode cX11_takes 65 = .ok (.iinc 2 1, 3) := by decide +kernel
theorem dX11_takes_68 : decode cX11_takes 68 = .ok (.goto (-47), 3) := by decide +kernel
theorem dX11_takes_71 : decode cX11_takes 71 = .ok (.return_, 1) := by decide +kernel
theorem dX11_drop_0 : decode cX11_drop 0 = .ok (.aload_n 0, 1) := by decide +kernel
theorem dX11_drop_1 : decode cX11_drop 1 = .ok (.iconst 0, 1) := by decide +kernel
theorem dX11_drop_2 : decode cX11_drop 2 = .ok (.putfield 1, 3) := by decide +kernel
theorem dX11_drop_5 : decode cX11_drop 5 = .ok (.iload_n 1, 1) := by decide +kernel
theorem dX11_drop_6 : decode cX11_drop 6 = .ok (.invokestatic 271, 3) := by decide +kernel
theorem dX11_drop_9 : decode cX11_drop 9 = .ok (.ifCond .ne 6, 3) := by decide +kernel
theorem dX11_drop_12 : decode cX11_drop 12 = .ok (.bipush (-2), 2) := by decide +kernel
theorem dX11_drop_14 : decode cX11_drop 14 = .ok (.ireturn, 1) := by decide +kernel
theorem dX11_drop_15 : decode cX11_drop 15 = .ok (.aload_n 0, 1) := by decide +kernel
theorem dX11_drop_16 : decode cX11_drop 16 = .ok (.getfield 56, 3) := by decide +kernel
theorem dX11_drop_19 : decode cX11_drop 19 = .ok (.iload_n 1, 1) := by decide +kernel
theorem dX11_drop_20 : decode cX11_drop 20 = .ok (.iaload, 1) := by decide +kernel
theorem dX11_drop_21 : decode cX11_drop 21 = .ok (.istore_n 2, 1) := by decide +kernel
theorem dX11_drop_22 : decode cX11_drop 22 = .ok (.aload_n 0, 1) := by decide +kernel
theorem dX11_drop_23 : decode cX11_drop 23 = .ok (.getfield 56, 3) := by decide +kernel
theorem dX11_drop_26 : decode cX11_drop 26 = .ok (.iload_n 1, 1) := by decide +kernel
theorem dX11_drop_27 : decode cX11_drop 27 = .ok (.iconst 0, 1) := by decide +kernel
theorem dX11_drop_28 : decode cX11_drop 28 = .ok (.iastore, 1) := by decide +kernel
theorem dX11_drop_29 : decode cX11_drop 29 = .ok (.iload_n 2, 1) := by decide +kernel
theorem dX11_drop_30 : decode cX11_drop 30 = .ok (.ireturn, 1) := by decide +kernel
theorem dX11_proves_0 : decode cX11_proves 0 = .ok (.aload_n 0, 1) := by decide +kernel
theorem dX11_proves_1 : decode cX11_proves 1 = .ok (.iconst 0, 1) := by decide +kernel
theorem dX11_proves_2 : decode cX11_proves 2 = .ok (.putfield 283, 3) := by decide +kernel
theorem dX11_proves_5 : decode cX11_proves 5 = .ok (.aload_n 0, 1) := by decide +kernel
theorem dX11_proves_6 : decode cX11_proves 6 = .ok (.iconst 0, 1) := by decide +kernel
theorem dX11_proves_7 : decode cX11_proves 7 = .ok (.invokevirtual 286, 3) := by decide +kernel
theorem dX11_proves_10 : decode cX11_proves 10 = .ok (.ireturn, 1) := by decide +kernel
theorem dX11_asks_0 : decode cX11_asks 0 = .ok (.aload_n 0, 1) := by decide +kernel
theorem dX11_asks_1 : decode cX11_asks 1 = .ok (.getfield 163, 3) := by decide +kernel
theorem dX11_asks_4 : decode cX11_asks 4 = .ok (.ifCond .eq 5, 3) := by decide +kernel
theorem dX11_asks_7 : decode cX11_asks 7 = .ok (.iconst 0, 1) := by decide +kernel
theorem dX11_asks_8 : decode cX11_asks 8 = .ok (.ireturn, 1) := by decide +kernel
theorem dX11_asks_9 : decode cX11_asks 9 = .ok (.aload_n 0, 1) := by decide +kernel
theorem dX11_asks_10 : decode cX11_asks 10 = .ok (.getfield 283, 3) := by decide +kernel
theorem dX11_asks_13 : decode cX11_asks 13 = .ok (.istore_n 2, 1) := by decide +kernel
theorem dX11_asks_14 : decode cX11_asks 14 = .ok (.aload_n 0, 1) := by decide +kernel
theorem dX11_asks_15 : decode cX11_asks 15 = .ok (.dup, 1) := by decide +kernel
theorem dX11_asks_16 : decode cX11_asks 16 = .ok (.getfield 283, 3) := by decide +kernel
theorem dX11_asks_19 : decode cX11_asks 19 = .ok (.iconst 1, 1) := by decide +kernel
theorem dX11_asks_20 : decode cX11_asks 20 = .ok (.iadd, 1) := by decide +kernel
theorem dX11_asks_21 : decode cX11_asks 21 = .ok (.putfield 283, 3) := by decide +kernel
theorem dX11_asks_24 : decode cX11_asks 24 = .ok (.aload_n 0, 1) := by decide +kernel
theorem dX11_asks_25 : decode cX11_asks 25 = .ok (.getfield 90, 3) := by decide +kernel
theorem dX11_asks_28 : decode cX11_asks 28 = .ok (.iload_n 2, 1) := by decide +kernel
theorem dX11_asks_29 : decode cX11_asks 29 = .ok (.iload_n 1, 1) := by decide +kernel
theorem dX11_asks_30 : decode cX11_asks 30 = .ok (.iastore, 1) := by decide +kernel
theorem dX11_asks_31 : decode cX11_asks 31 = .ok (.aload_n 0, 1) := by decide +kernel
theorem dX11_asks_32 : decode cX11_asks 32 = .ok (.iload_n 2, 1) := by decide +kernel
theorem dX11_asks_33 : decode cX11_asks 33 = .ok (.iload_n 1, 1) := by decide +kernel
theorem dX11_asks_34 : decode cX11_asks 34 = .ok (.invokevirtual 289, 3) := by decide +kernel
theorem dX11_asks_37 : decode cX11_asks 37 = .ok (.istore_n 3, 1) := by decide +kernel
theorem dX11_asks_38 : decode cX11_asks 38 = .ok (.aload_n 0, 1) := by decide +kernel
theorem dX11_asks_39 : decode cX11_asks 39 = .ok (.getfield 87, 3) := by decide +kernel
theorem dX11_asks_42 : decode cX11_asks 42 = .ok (.iload_n 2, 1) := by decide +kernel
theorem dX11_asks_43 : decode cX11_asks 43 = .ok (.iload_n 3, 1) := by decide +kernel
theorem dX11_asks_44 : decode cX11_asks 44 = .ok (.iastore, 1) := by decide +kernel
theorem dX11_asks_45 : decode cX11_asks 45 = .ok (.iload_n 3, 1) := by decide +kernel
theorem dX11_asks_46 : decode cX11_asks 46 = .ok (.ireturn, 1) := by decide +kernel
theorem dX11_isNot_0 : decode cX11_isNot 0 = .ok (.aload_n 0, 1) := by decide +kernel
theorem dX11_isNot_1 : decode cX11_isNot 1 = .ok (.getfield 163, 3) := by decide +kernel
theorem dX11_isNot_4 : decode cX11_isNot 4 = .ok (.ifCond .ne 24, 3) := by decide +kernel
theorem dX11_isNot_7 : decode cX11_isNot 7 = .ok (.aload_n 0, 1) := by decide +kernel
theorem dX11_isNot_8 : decode cX11_isNot 8 = .ok (.getfield 13, 3) := by decide +kernel
theorem dX11_isNot_11 : decode cX11_isNot 11 = .ok (.iload_n 1, 1) := by decide +kernel
theorem dX11_isNot_12 : decode cX11_isNot 12 = .ok (.iaload, 1) := by decide +kernel
theorem dX11_isNot_13 : decode cX11_isNot 13 = .ok (.iload_n 2, 1) := by decide +kernel
theorem dX11_isNot_14 : decode cX11_isNot 14 = .ok (.if_icmp .eq 14, 3) := by decide +kernel
theorem dX11_isNot_17 : decode cX11_isNot 17 = .ok (.aload_n 0, 1) := by decide +kernel
theorem dX11_isNot_18 : decode cX11_isNot 18 = .ok (.iconst 5, 1) := by decide +kernel
theorem dX11_isNot_19 : decode cX11_isNot 19 = .ok (.aload_n 0, 1) := by decide +kernel
theorem dX11_isNot_20 : decode cX11_isNot 20 = .ok (.getfield 78, 3) := by decide +kernel
theorem dX11_isNot_23 : decode cX11_isNot 23 = .ok (.iload_n 3, 1) := by decide +kernel
theorem dX11_isNot_24 : decode cX11_isNot 24 = .ok (.iaload, 1) := by decide +kernel
theorem dX11_isNot_25 : decode cX11_isNot 25 = .ok (.invokevirtual 209, 3) := by decide +kernel
theorem dX11_isNot_28 : decode cX11_isNot 28 = .ok (.aload_n 0, 1) := by decide +kernel
theorem dX11_isNot_29 : decode cX11_isNot 29 = .ok (.getfield 163, 3) := by decide +kernel
theorem dX11_isNot_32 : decode cX11_isNot 32 = .ok (.ifCond .eq 7, 3) := by decide +kernel
theorem dX11_isNot_35 : decode cX11_isNot 35 = .ok (.iconst 1, 1) := by decide +kernel
theorem dX11_isNot_36 : decode cX11_isNot 36 = .ok (.goto 4, 3) := by decide +kernel
theorem dX11_isNot_39 : decode cX11_isNot 39 = .ok (.iconst 0, 1) := by decide +kernel
theorem dX11_isNot_40 : decode cX11_isNot 40 = .ok (.ireturn, 1) := by decide +kernel
theorem dX11_provenBy_0 : decode cX11_provenBy 0 = .ok (.aload_n 0, 1) := by decide +kernel
theorem dX11_provenBy_1 : decode cX11_provenBy 1 = .ok (.getfield 283, 3) := by decide +kernel
theorem dX11_provenBy_4 : decode cX11_provenBy 4 = .ok (.istore_n 3, 1) := by decide +kernel
theorem dX11_provenBy_5 : decode cX11_provenBy 5 = .ok (.aload_n 0, 1) := by decide +kernel
theorem dX11_provenBy_6 : decode cX11_provenBy 6 = .ok (.getfield 59, 3) := by decide +kernel
theorem dX11_provenBy_9 : decode cX11_provenBy 9 = .ok (.iload_n 1, 1) := by decide +kernel
theorem dX11_provenBy_10 : decode cX11_provenBy 10 = .ok (.iaload, 1) := by decide +kernel
theorem dX11_provenBy_11 : decode cX11_provenBy 11 = .ok (.ifCond .ne 40, 3) := by decide +kernel
theorem dX11_provenBy_14 : decode cX11_provenBy 14 = .ok (.aload_n 0, 1) := by decide +kernel
theorem dX11_provenBy_15 : decode cX11_provenBy 15 = .ok (.getfield 62, 3) := by decide +kernel
theorem dX11_provenBy_18 : decode cX11_provenBy 18 = .ok (.iload_n 1, 1) := by decide +kernel
theorem dX11_provenBy_19 : decode cX11_provenBy 19 = .ok (.iaload, 1) := by decide +kernel
theorem dX11_provenBy_20 : decode cX11_provenBy 20 = .ok (.ifCond .ge 19, 3) := by decide +kernel
theorem dX11_provenBy_23 : decode cX11_provenBy 23 = .ok (.aload_n 0, 1) := by decide +kernel
theorem dX11_provenBy_24 : decode cX11_provenBy 24 = .ok (.getfield 38, 3) := by decide +kernel
theorem dX11_provenBy_27 : decode cX11_provenBy 27 = .ok (.iconst (-1), 1) := by decide +kernel
theorem dX11_provenBy_28 : decode cX11_provenBy 28 = .ok (.aload_n 0, 1) := by decide +kernel
theorem dX11_provenBy_29 : decode cX11_provenBy 29 = .ok (.getfield 62, 3) := by decide +kernel
theorem dX11_provenBy_32 : decode cX11_provenBy 32 = .ok (.iload_n 1, 1) := by decide +kernel
theorem dX11_provenBy_33 : decode cX11_provenBy 33 = .ok (.iaload, 1) := by decide +kernel
theorem dX11_provenBy_34 : decode cX11_provenBy 34 = .ok (.isub, 1) := by decide +kernel
theorem dX11_provenBy_35 : decode cX11_provenBy 35 = .ok (.iaload, 1) := by decide +kernel
theorem dX11_provenBy_36 : decode cX11_provenBy 36 = .ok (.goto 14, 3) := by decide +kernel
theorem dX11_provenBy_39 : decode cX11_provenBy 39 = .ok (.aload_n 0, 1) := by decide +kernel
theorem dX11_provenBy_40 : decode cX11_provenBy 40 = .ok (.getfield 93, 3) := by decide +kernel
theorem dX11_provenBy_43 : decode cX11_provenBy 43 = .ok (.aload_n 0, 1) := by decide +kernel
theorem dX11_provenBy_44 : decode cX11_provenBy 44 = .ok (.getfield 62, 3) := by decide +kernel
theorem dX11_provenBy_47 : decode cX11_provenBy 47 = .ok (.iload_n 1, 1) := by decide +kernel
theorem dX11_provenBy_48 : decode cX11_provenBy 48 = .ok (.iaload, 1) := by decide +kernel
theorem dX11_provenBy_49 : decode cX11_provenBy 49 = .ok (.iaload, 1) := by decide +kernel
theorem dX11_provenBy_50 : decode cX11_provenBy 50 = .ok (.ireturn, 1) := by decide +kernel
theorem dX11_provenBy_51 : decode cX11_provenBy 51 = .ok (.aload_n 0, 1) := by decide +kernel
theorem dX11_provenBy_52 : decode cX11_provenBy 52 = .ok (.getfield 59, 3) := by decide +kernel
theorem dX11_provenBy_55 : decode cX11_provenBy 55 = .ok (.iload_n 1, 1) := by decide +kernel
theorem dX11_provenBy_56 : decode cX11_provenBy 56 = .ok (.iaload, 1) := by decide +kernel
theorem dX11_provenBy_57 : decode cX11_provenBy 57 = .ok (.iconst 1, 1) := by decide +kernel
theorem dX11_provenBy_58 : decode cX11_provenBy 58 = .ok (.if_icmp .ne 50, 3) := by decide +kernel
theorem dX11_provenBy_61 : decode cX11_provenBy 61 = .ok (.aload_n 0, 1) := by decide +kernel
theorem dX11_provenBy_62 : decode cX11_provenBy 62 = .ok (.getfield 93, 3) := by decide +kernel
theorem dX11_provenBy_65 : decode cX11_provenBy 65 = .ok (.iload_n 2, 1) := by decide +kernel
theorem dX11_provenBy_66 : decode cX11_provenBy 66 = .ok (.aload_n 0, 1) := by decide +kernel
theorem dX11_provenBy_67 : decode cX11_provenBy 67 = .ok (.getfield 62, 3) := by decide +kernel
theorem dX11_provenBy_70 : decode cX11_provenBy 70 = .ok (.iload_n 1, 1) := by decide +kernel
theorem dX11_provenBy_71 : decode cX11_provenBy 71 = .ok (.iaload, 1) := by decide +kernel
theorem dX11_provenBy_72 : decode cX11_provenBy 72 = .ok (.iastore, 1) := by decide +kernel
theorem dX11_provenBy_73 : decode cX11_provenBy 73 = .ok (.aload_n 0, 1) := by decide +kernel
theorem dX11_provenBy_74 : decode cX11_provenBy 74 = .ok (.iload_n 2, 1) := by decide +kernel
theorem dX11_provenBy_75 : decode cX11_provenBy 75 = .ok (.iconst 1, 1) := by decide +kernel
theorem dX11_provenBy_76 : decode cX11_provenBy 76 = .ok (.iadd, 1) := by decide +kernel
theorem dX11_provenBy_77 : decode cX11_provenBy 77 = .ok (.invokevirtual 286, 3) := by decide +kernel
theorem dX11_provenBy_80 : decode cX11_provenBy 80 = .ok (.istore 4, 2) := by decide +kernel
theorem dX11_provenBy_82 : decode cX11_provenBy 82 = .ok (.aload_n 0, 1) := by decide +kernel
theorem dX11_provenBy_83 : decode cX11_provenBy 83 = .ok (.getfield 163, 3) := by decide +kernel
theorem dX11_provenBy_86 : decode cX11_provenBy 86 = .ok (.ifCond .eq 7, 3) := by decide +kernel
theorem dX11_provenBy_89 : decode cX11_provenBy 89 = .ok (.iconst 0, 1) := by decide +kernel
theorem dX11_provenBy_90 : decode cX11_provenBy 90 = .ok (.goto 17, 3) := by decide +kernel
theorem dX11_provenBy_93 : decode cX11_provenBy 93 = .ok (.aload_n 0, 1) := by decide +kernel
theorem dX11_provenBy_94 : decode cX11_provenBy 94 = .ok (.bipush 9, 2) := by decide +kernel
theorem dX11_provenBy_96 : decode cX11_provenBy 96 = .ok (.aload_n 0, 1) := by decide +kernel
theorem dX11_provenBy_97 : decode cX11_provenBy 97 = .ok (.getfield 62, 3) := by decide +kernel
theorem dX11_provenBy_100 : decode cX11_provenBy 100 = .ok (.iload_n 1, 1) := by decide +kernel
theorem dX11_provenBy_101 : decode cX11_provenBy 101 = .ok (.iaload, 1) := by decide +kernel
theorem dX11_provenBy_102 : decode cX11_provenBy 102 = .ok (.iload 4, 2) := by decide +kernel
theorem dX11_provenBy_104 : decode cX11_provenBy 104 = .ok (.invokevirtual 130, 3) := by decide +kernel
theorem dX11_provenBy_107 : decode cX11_provenBy 107 = .ok (.ireturn, 1) := by decide +kernel
theorem dX11_provenBy_108 : decode cX11_provenBy 108 = .ok (.aload_n 0, 1) := by decide +kernel
theorem dX11_provenBy_109 : decode cX11_provenBy 109 = .ok (.iload_n 2, 1) := by decide +kernel
theorem dX11_provenBy_110 : decode cX11_provenBy 110 = .ok (.invokevirtual 286, 3) := by decide +kernel
theorem dX11_provenBy_113 : decode cX11_provenBy 113 = .ok (.istore 4, 2) := by decide +kernel
theorem dX11_provenBy_115 : decode cX11_provenBy 115 = .ok (.aload_n 0, 1) := by decide +kernel
theorem dX11_provenBy_116 : decode cX11_provenBy 116 = .ok (.getfield 283, 3) := by decide +kernel
theorem dX11_provenBy_119 : decode cX11_provenBy 119 = .ok (.istore 5, 2) := by decide +kernel
theorem dX11_provenBy_121 : decode cX11_provenBy 121 = .ok (.aload_n 0, 1) := by decide +kernel
theorem dX11_provenBy_122 : decode cX11_provenBy 122 = .ok (.getfield 59, 3) := by decide +kernel
theorem dX11_provenBy_125 : decode cX11_provenBy 125 = .ok (.iload_n 1, 1) := by decide +kernel
theorem dX11_provenBy_126 : decode cX11_provenBy 126 = .ok (.iaload, 1) := by decide +kernel
theorem dX11_provenBy_127 : decode cX11_provenBy 127 = .ok (.tableswitch 310 2 8 #[41, 94, 123, 123, 165, 191, 217], 41) := by decide +kernel
theorem dX11_provenBy_168 : decode cX11_provenBy 168 = .ok (.aload_n 0, 1) := by decide +kernel
theorem dX11_provenBy_169 : decode cX11_provenBy 169 = .ok (.iload_n 2, 1) := by decide +kernel
theorem dX11_provenBy_170 : decode cX11_provenBy 170 = .ok (.invokevirtual 286, 3) := by decide +kernel
theorem dX11_provenBy_173 : decode cX11_provenBy 173 = .ok (.istore 6, 2) := by decide +kernel
theorem dX11_provenBy_175 : decode cX11_provenBy 175 = .ok (.aload_n 0, 1) := by decide +kernel
theorem dX11_provenBy_176 : decode cX11_provenBy 176 = .ok (.iload 4, 2) := by decide +kernel
theorem dX11_provenBy_178 : decode cX11_provenBy 178 = .ok (.bipush 9, 2) := by decide +kernel
theorem dX11_provenBy_180 : decode cX11_provenBy 180 = .ok (.iload_n 3, 1) := by decide +kernel
theorem dX11_provenBy_181 : decode cX11_provenBy 181 = .ok (.invokevirtual 293, 3) := by decide +kernel
theorem dX11_provenBy_184 : decode cX11_provenBy 184 = .ok (.ifCond .eq 5, 3) := by decide +kernel
theorem dX11_provenBy_187 : decode cX11_provenBy 187 = .ok (.iconst 0, 1) := by decide +kernel
theorem dX11_provenBy_188 : decode cX11_provenBy 188 = .ok (.ireturn, 1) := by decide +kernel
theorem dX11_provenBy_189 : decode cX11_provenBy 189 = .ok (.aload_n 0, 1) := by decide +kernel
theorem dX11_provenBy_190 : decode cX11_provenBy 190 = .ok (.getfield 17, 3) := by decide +kernel
theorem dX11_provenBy_193 : decode cX11_provenBy 193 = .ok (.iload 4, 2) := by decide +kernel
theorem dX11_provenBy_195 : decode cX11_provenBy 195 = .ok (.iaload, 1) := by decide +kernel
theorem dX11_provenBy_196 : decode cX11_provenBy 196 = .ok (.iload 6, 2) := by decide +kernel
theorem dX11_provenBy_198 : decode cX11_provenBy 198 = .ok (.if_icmp .eq 15, 3) := by decide +kernel
theorem dX11_provenBy_201 : decode cX11_provenBy 201 = .ok (.aload_n 0, 1) := by decide +kernel
theorem dX11_provenBy_202 : decode cX11_provenBy 202 = .ok (.iconst 5, 1) := by decide +kernel
theorem dX11_provenBy_203 : decode cX11_provenBy 203 = .ok (.aload_n 0, 1) := by decide +kernel
theorem dX11_provenBy_204 : decode cX11_provenBy 204 = .ok (.getfield 78, 3) := by decide +kernel
theorem dX11_provenBy_207 : decode cX11_provenBy 207 = .ok (.iload 5, 2) := by decide +kernel
theorem dX11_provenBy_209 : decode cX11_provenBy 209 = .ok (.iaload, 1) := by decide +kernel
theorem dX11_provenBy_210 : decode cX11_provenBy 210 = .ok (.invokevirtual 209, 3) := by decide +kernel
theorem dX11_provenBy_213 : decode cX11_provenBy 213 = .ok (.aload_n 0, 1) := by decide +kernel
theorem dX11_provenBy_214 : decode cX11_provenBy 214 = .ok (.getfield 20, 3) := by decide +kernel
theorem dX11_provenBy_217 : decode cX11_provenBy 217 = .ok (.iload 4, 2) := by decide +kernel
theorem dX11_provenBy_219 : decode cX11_provenBy 219 = .ok (.iaload, 1) := by decide +kernel
theorem dX11_provenBy_220 : decode cX11_provenBy 220 = .ok (.ireturn, 1) := by decide +kernel
theorem dX11_provenBy_221 : decode cX11_provenBy 221 = .ok (.aload_n 0, 1) := by decide +kernel
theorem dX11_provenBy_222 : decode cX11_provenBy 222 = .ok (.iload_n 2, 1) := by decide +kernel
theorem dX11_provenBy_223 : decode cX11_provenBy 223 = .ok (.invokevirtual 286, 3) := by decide +kernel
theorem dX11_provenBy_226 : decode cX11_provenBy 226 = .ok (.istore 7, 2) := by decide +kernel
theorem dX11_provenBy_228 : decode cX11_provenBy 228 = .ok (.aload_n 0, 1) := by decide +kernel
theorem dX11_provenBy_229 : decode cX11_provenBy 229 = .ok (.getfield 163, 3) := by decide +kernel
theorem dX11_provenBy_232 : decode cX11_provenBy 232 = .ok (.ifCond .eq 7, 3) := by decide +kernel
theorem dX11_provenBy_235 : decode cX11_provenBy 235 = .ok (.iconst 0, 1) := by decide +kernel
theorem dX11_provenBy_236 : decode cX11_provenBy 236 = .ok (.goto 13, 3) := by decide +kernel
theorem dX11_provenBy_239 : decode cX11_provenBy 239 = .ok (.aload_n 0, 1) := by decide +kernel
theorem dX11_provenBy_240 : decode cX11_provenBy 240 = .ok (.bipush 10, 2) := by decide +kernel
theorem dX11_provenBy_242 : decode cX11_provenBy 242 = .ok (.iload 4, 2) := by decide +kernel
theorem dX11_provenBy_244 : decode cX11_provenBy 244 = .ok (.iload 7, 2) := by decide +kernel
theorem dX11_provenBy_246 : decode cX11_provenBy 246 = .ok (.invokevirtual 130, 3) := by decide +kernel
theorem dX11_provenBy_249 : decode cX11_provenBy 249 = .ok (.ireturn, 1) := by decide +kernel
theorem dX11_provenBy_250 : decode cX11_provenBy 250 = .ok (.aload_n 0, 1) := by decide +kernel
theorem dX11_provenBy_251 : decode cX11_provenBy 251 = .ok (.iload 4, 2) := by decide +kernel
theorem dX11_provenBy_253 : decode cX11_provenBy 253 = .ok (.bipush 10, 2) := by decide +kernel
theorem dX11_provenBy_255 : decode cX11_provenBy 255 = .ok (.iload_n 3, 1) := by decide +kernel
theorem dX11_provenBy_256 : decode cX11_provenBy 256 = .ok (.invokevirtual 293, 3) := by decide +kernel
theorem dX11_provenBy_259 : decode cX11_provenBy 259 = .ok (.ifCond .eq 5, 3) := by decide +kernel
theorem dX11_provenBy_262 : decode cX11_provenBy 262 = .ok (.iconst 0, 1) := by decide +kernel
theorem dX11_provenBy_263 : decode cX11_provenBy 263 = .ok (.ireturn, 1) := by decide +kernel
theorem dX11_provenBy_264 : decode cX11_provenBy 264 = .ok (.aload_n 0, 1) := by decide +kernel
theorem dX11_provenBy_265 : decode cX11_provenBy 265 = .ok (.getfield 59, 3) := by decide +kernel
theorem dX11_provenBy_268 : decode cX11_provenBy 268 = .ok (.iload_n 1, 1) := by decide +kernel
theorem dX11_provenBy_269 : decode cX11_provenBy 269 = .ok (.iaload, 1) := by decide +kernel
theorem dX11_provenBy_270 : decode cX11_provenBy 270 = .ok (.iconst 4, 1) := by decide +kernel
theorem dX11_provenBy_271 : decode cX11_provenBy 271 = .ok (.if_icmp .ne 13, 3) := by decide +kernel
theorem dX11_provenBy_274 : decode cX11_provenBy 274 = .ok (.aload_n 0, 1) := by decide +kernel
theorem dX11_provenBy_275 : decode cX11_provenBy 275 = .ok (.getfield 17, 3) := by decide +kernel
theorem dX11_provenBy_278 : decode cX11_provenBy 278 = .ok (.iload 4, 2) := by decide +kernel
theorem dX11_provenBy_280 : decode cX11_provenBy 280 = .ok (.iaload, 1) := by decide +kernel
theorem dX11_provenBy_281 : decode cX11_provenBy 281 = .ok (.goto 10, 3) := by decide +kernel
theorem dX11_provenBy_284 : decode cX11_provenBy 284 = .ok (.aload_n 0, 1) := by decide +kernel
theorem dX11_provenBy_285 : decode cX11_provenBy 285 = .ok (.getfield 20, 3) := by decide +kernel
theorem dX11_provenBy_288 : decode cX11_provenBy 288 = .ok (.iload 4, 2) := by decide +kernel
theorem dX11_provenBy_290 : decode cX11_provenBy 290 = .ok (.iaload, 1) := by decide +kernel
theorem dX11_provenBy_291 : decode cX11_provenBy 291 = .ok (.ireturn, 1) := by decide +kernel
theorem dX11_provenBy_292 : decode cX11_provenBy 292 = .ok (.aload_n 0, 1) := by decide +kernel
theorem dX11_provenBy_293 : decode cX11_provenBy 293 = .ok (.getfield 163, 3) := by decide +kernel
theorem dX11_provenBy_296 : decode cX11_provenBy 296 = .ok (.ifCond .eq 7, 3) := by decide +kernel
theorem dX11_provenBy_299 : decode cX11_provenBy 299 = .ok (.iconst 0, 1) := by decide +kernel
theorem dX11_provenBy_300 : decode cX11_provenBy 300 = .ok (.goto 17, 3) := by decide +kernel
theorem dX11_provenBy_303 : decode cX11_provenBy 303 = .ok (.aload_n 0, 1) := by decide +kernel
theorem dX11_provenBy_304 : decode cX11_provenBy 304 = .ok (.bipush 11, 2) := by decide +kernel
theorem dX11_provenBy_306 : decode cX11_provenBy 306 = .ok (.iload 4, 2) := by decide +kernel
theorem dX11_provenBy_308 : decode cX11_provenBy 308 = .ok (.aload_n 0, 1) := by decide +kernel
theorem dX11_provenBy_309 : decode cX11_provenBy 309 = .ok (.getfield 62, 3) := by decide +kernel
theorem dX11_provenBy_312 : decode cX11_provenBy 312 = .ok (.iload_n 1, 1) := by decide +kernel
theorem dX11_provenBy_313 : decode cX11_provenBy 313 = .ok (.iaload, 1) := by decide +kernel
theorem dX11_provenBy_314 : decode cX11_provenBy 314 = .ok (.invokevirtual 130, 3) := by decide +kernel
theorem dX11_provenBy_317 : decode cX11_provenBy 317 = .ok (.ireturn, 1) := by decide +kernel
theorem dX11_provenBy_318 : decode cX11_provenBy 318 = .ok (.aload_n 0, 1) := by decide +kernel
theorem dX11_provenBy_319 : decode cX11_provenBy 319 = .ok (.getfield 163, 3) := by decide +kernel
theorem dX11_provenBy_322 : decode cX11_provenBy 322 = .ok (.ifCond .eq 7, 3) := by decide +kernel
theorem dX11_provenBy_325 : decode cX11_provenBy 325 = .ok (.iconst 0, 1) := by decide +kernel
theorem dX11_provenBy_326 : decode cX11_provenBy 326 = .ok (.goto 17, 3) := by decide +kernel
theorem dX11_provenBy_329 : decode cX11_provenBy 329 = .ok (.aload_n 0, 1) := by decide +kernel
theorem dX11_provenBy_330 : decode cX11_provenBy 330 = .ok (.bipush 11, 2) := by decide +kernel
theorem dX11_provenBy_332 : decode cX11_provenBy 332 = .ok (.aload_n 0, 1) := by decide +kernel
theorem dX11_provenBy_333 : decode cX11_provenBy 333 = .ok (.getfield 62, 3) := by decide +kernel
theorem dX11_provenBy_336 : decode cX11_provenBy 336 = .ok (.iload_n 1, 1) := by decide +kernel
theorem dX11_provenBy_337 : decode cX11_provenBy 337 = .ok (.iaload, 1) := by decide +kernel
theorem dX11_provenBy_338 : decode cX11_provenBy 338 = .ok (.iload 4, 2) := by decide +kernel
theorem dX11_provenBy_340 : decode cX11_provenBy 340 = .ok (.invokevirtual 130, 3) := by decide +kernel
theorem dX11_provenBy_343 : decode cX11_provenBy 343 = .ok (.ireturn, 1) := by decide +kernel
theorem dX11_provenBy_344 : decode cX11_provenBy 344 = .ok (.aload_n 0, 1) := by decide +kernel
theorem dX11_provenBy_345 : decode cX11_provenBy 345 = .ok (.iload 4, 2) := by decide +kernel
theorem dX11_provenBy_347 : decode cX11_provenBy 347 = .ok (.bipush 11, 2) := by decide +kernel
theorem dX11_provenBy_349 : decode cX11_provenBy 349 = .ok (.iload_n 3, 1) := by decide +kernel
theorem dX11_provenBy_350 : decode cX11_provenBy 350 = .ok (.invokevirtual 293, 3) := by decide +kernel
theorem dX11_provenBy_353 : decode cX11_provenBy 353 = .ok (.ifCond .eq 5, 3) := by decide +kernel
theorem dX11_provenBy_356 : decode cX11_provenBy 356 = .ok (.iconst 0, 1) := by decide +kernel
theorem dX11_provenBy_357 : decode cX11_provenBy 357 = .ok (.ireturn, 1) := by decide +kernel
theorem dX11_provenBy_358 : decode cX11_provenBy 358 = .ok (.aload_n 0, 1) := by decide +kernel
theorem dX11_provenBy_359 : decode cX11_provenBy 359 = .ok (.getfield 93, 3) := by decide +kernel
theorem dX11_provenBy_362 : decode cX11_provenBy 362 = .ok (.iload_n 2, 1) := by decide +kernel
theorem dX11_provenBy_363 : decode cX11_provenBy 363 = .ok (.aload_n 0, 1) := by decide +kernel
theorem dX11_provenBy_364 : decode cX11_provenBy 364 = .ok (.getfield 17, 3) := by decide +kernel
theorem dX11_provenBy_367 : decode cX11_provenBy 367 = .ok (.iload 4, 2) := by decide +kernel
theorem dX11_provenBy_369 : decode cX11_provenBy 369 = .ok (.iaload, 1) := by decide +kernel
theorem dX11_provenBy_370 : decode cX11_provenBy 370 = .ok (.iastore, 1) := by decide +kernel
theorem dX11_provenBy_371 : decode cX11_provenBy 371 = .ok (.aload_n 0, 1) := by decide +kernel
theorem dX11_provenBy_372 : decode cX11_provenBy 372 = .ok (.iload_n 2, 1) := by decide +kernel
theorem dX11_provenBy_373 : decode cX11_provenBy 373 = .ok (.iconst 1, 1) := by decide +kernel
theorem dX11_provenBy_374 : decode cX11_provenBy 374 = .ok (.iadd, 1) := by decide +kernel
theorem dX11_provenBy_375 : decode cX11_provenBy 375 = .ok (.invokevirtual 286, 3) := by decide +kernel
theorem dX11_provenBy_378 : decode cX11_provenBy 378 = .ok (.istore 8, 2) := by decide +kernel
theorem dX11_provenBy_380 : decode cX11_provenBy 380 = .ok (.aload_n 0, 1) := by decide +kernel
theorem dX11_provenBy_381 : decode cX11_provenBy 381 = .ok (.getfield 283, 3) := by decide +kernel
theorem dX11_provenBy_384 : decode cX11_provenBy 384 = .ok (.istore 9, 2) := by decide +kernel
theorem dX11_provenBy_386 : decode cX11_provenBy 386 = .ok (.aload_n 0, 1) := by decide +kernel
theorem dX11_provenBy_387 : decode cX11_provenBy 387 = .ok (.getfield 93, 3) := by decide +kernel
theorem dX11_provenBy_390 : decode cX11_provenBy 390 = .ok (.iload_n 2, 1) := by decide +kernel
theorem dX11_provenBy_391 : decode cX11_provenBy 391 = .ok (.aload_n 0, 1) := by decide +kernel
theorem dX11_provenBy_392 : decode cX11_provenBy 392 = .ok (.getfield 20, 3) := by decide +kernel
theorem dX11_provenBy_395 : decode cX11_provenBy 395 = .ok (.iload 4, 2) := by decide +kernel
theorem dX11_provenBy_397 : decode cX11_provenBy 397 = .ok (.iaload, 1) := by decide +kernel
theorem dX11_provenBy_398 : decode cX11_provenBy 398 = .ok (.iastore, 1) := by decide +kernel
theorem dX11_provenBy_399 : decode cX11_provenBy 399 = .ok (.aload_n 0, 1) := by decide +kernel
theorem dX11_provenBy_400 : decode cX11_provenBy 400 = .ok (.iload_n 2, 1) := by decide +kernel
theorem dX11_provenBy_401 : decode cX11_provenBy 401 = .ok (.iconst 1, 1) := by decide +kernel
theorem dX11_provenBy_402 : decode cX11_provenBy 402 = .ok (.iadd, 1) := by decide +kernel
theorem dX11_provenBy_403 : decode cX11_provenBy 403 = .ok (.invokevirtual 286, 3) := by decide +kernel
theorem dX11_provenBy_406 : decode cX11_provenBy 406 = .ok (.istore 10, 2) := by decide +kernel
theorem dX11_provenBy_408 : decode cX11_provenBy 408 = .ok (.aload_n 0, 1) := by decide +kernel
theorem dX11_provenBy_409 : decode cX11_provenBy 409 = .ok (.getfield 163, 3) := by decide +kernel
theorem dX11_provenBy_412 : decode cX11_provenBy 412 = .ok (.ifCond .ne 22, 3) := by decide +kernel
theorem dX11_provenBy_415 : decode cX11_provenBy 415 = .ok (.iload 8, 2) := by decide +kernel
theorem dX11_provenBy_417 : decode cX11_provenBy 417 = .ok (.iload 10, 2) := by decide +kernel
theorem dX11_provenBy_419 : decode cX11_provenBy 419 = .ok (.if_icmp .eq 15, 3) := by decide +kernel
theorem dX11_provenBy_422 : decode cX11_provenBy 422 = .ok (.aload_n 0, 1) := by decide +kernel
theorem dX11_provenBy_423 : decode cX11_provenBy 423 = .ok (.iconst 5, 1) := by decide +kernel
theorem dX11_provenBy_424 : decode cX11_provenBy 424 = .ok (.aload_n 0, 1) := by decide +kernel
theorem dX11_provenBy_425 : decode cX11_provenBy 425 = .ok (.getfield 78, 3) := by decide +kernel
theorem dX11_provenBy_428 : decode cX11_provenBy 428 = .ok (.iload 9, 2) := by decide +kernel
theorem dX11_provenBy_430 : decode cX11_provenBy 430 = .ok (.iaload, 1) := by decide +kernel
theorem dX11_provenBy_431 : decode cX11_provenBy 431 = .ok (.invokevirtual 209, 3) := by decide +kernel
theorem dX11_provenBy_434 : decode cX11_provenBy 434 = .ok (.iload 8, 2) := by decide +kernel
theorem dX11_provenBy_436 : decode cX11_provenBy 436 = .ok (.ireturn, 1) := by decide +kernel
theorem dX11_provenBy_437 : decode cX11_provenBy 437 = .ok (.aload_n 0, 1) := by decide +kernel
theorem dX11_provenBy_438 : decode cX11_provenBy 438 = .ok (.iload 4, 2) := by decide +kernel
theorem dX11_provenBy_440 : decode cX11_provenBy 440 = .ok (.bipush 8, 2) := by decide +kernel
theorem dX11_provenBy_442 : decode cX11_provenBy 442 = .ok (.iload_n 3, 1) := by decide +kernel
theorem dX11_provenBy_443 : decode cX11_provenBy 443 = .ok (.invokevirtual 293, 3) := by decide +kernel
theorem dX11_provenBy_446 : decode cX11_provenBy 446 = .ok (.ifCond .eq 5, 3) := by decide +kernel
theorem dX11_provenBy_449 : decode cX11_provenBy 449 = .ok (.iconst 0, 1) := by decide +kernel
theorem dX11_provenBy_450 : decode cX11_provenBy 450 = .ok (.ireturn, 1) := by decide +kernel
theorem dX11_provenBy_451 : decode cX11_provenBy 451 = .ok (.aload_n 0, 1) := by decide +kernel
theorem dX11_provenBy_452 : decode cX11_provenBy 452 = .ok (.getfield 62, 3) := by decide +kernel
theorem dX11_provenBy_455 : decode cX11_provenBy 455 = .ok (.iload_n 1, 1) := by decide +kernel
theorem dX11_provenBy_456 : decode cX11_provenBy 456 = .ok (.iaload, 1) := by decide +kernel
theorem dX11_provenBy_457 : decode cX11_provenBy 457 = .ok (.ireturn, 1) := by decide +kernel
theorem dX11_asked_0 : decode cX11_asked 0 = .ok (.aload_n 0, 1) := by decide +kernel
theorem dX11_asked_1 : decode cX11_asked 1 = .ok (.iconst 0, 1) := by decide +kernel
theorem dX11_asked_2 : decode cX11_asked 2 = .ok (.putfield 163, 3) := by decide +kernel
theorem dX11_asked_5 : decode cX11_asked 5 = .ok (.aload_n 0, 1) := by decide +kernel
theorem dX11_asked_6 : decode cX11_asked 6 = .ok (.invokevirtual 275, 3) := by decide +kernel
theorem dX11_asked_9 : decode cX11_asked 9 = .ok (.ireturn, 1) := by decide +kernel
theorem dX11_arity_0 : decode cX11_arity 0 = .ok (.iload_n 0, 1) := by decide +kernel
theorem dX11_arity_1 : decode cX11_arity 1 = .ok (.ifCond .ne 7, 3) := by decide +kernel
theorem dX11_arity_4 : decode cX11_arity 4 = .ok (.iconst 0, 1) := by decide +kernel
theorem dX11_arity_5 : decode cX11_arity 5 = .ok (.goto 28, 3) := by decide +kernel
theorem dX11_arity_8 : decode cX11_arity 8 = .ok (.iload_n 0, 1) := by decide +kernel
theorem dX11_arity_9 : decode cX11_arity 9 = .ok (.iconst 2, 1) := by decide +kernel
theorem dX11_arity_10 : decode cX11_arity 10 = .ok (.if_icmp .eq 8, 3) := by decide +kernel
theorem dX11_arity_13 : decode cX11_arity 13 = .ok (.iload_n 0, 1) := by decide +kernel
theorem dX11_arity_14 : decode cX11_arity 14 = .ok (.iconst 3, 1) := by decide +kernel
theorem dX11_arity_15 : decode cX11_arity 15 = .ok (.if_icmp .ne 7, 3) := by decide +kernel
theorem dX11_arity_18 : decode cX11_arity 18 = .ok (.iconst 2, 1) := by decide +kernel
theorem dX11_arity_19 : decode cX11_arity 19 = .ok (.goto 14, 3) := by decide +kernel
theorem dX11_arity_22 : decode cX11_arity 22 = .ok (.iload_n 0, 1) := by decide +kernel
theorem dX11_arity_23 : decode cX11_arity 23 = .ok (.bipush 8, 2) := by decide +kernel
theorem dX11_arity_25 : decode cX11_arity 25 = .ok (.if_icmp .ne 7, 3) := by decide +kernel
theorem dX11_arity_28 : decode cX11_arity 28 = .ok (.iconst 3, 1) := by decide +kernel
theorem dX11_arity_29 : decode cX11_arity 29 = .ok (.goto 4, 3) := by decide +kernel
theorem dX11_arity_32 : decode cX11_arity 32 = .ok (.iconst 1, 1) := by decide +kernel
theorem dX11_arity_33 : decode cX11_arity 33 = .ok (.ireturn, 1) := by decide +kernel
theorem dX11_behind_0 : decode cX11_behind 0 = .ok (.iload_n 1, 1) := by decide +kernel
theorem dX11_behind_1 : decode cX11_behind 1 = .ok (.istore_n 2, 1) := by decide +kernel
theorem dX11_behind_2 : decode cX11_behind 2 = .ok (.iconst 1, 1) := by decide +kernel
theorem dX11_behind_3 : decode cX11_behind 3 = .ok (.istore_n 3, 1) := by decide +kernel
theorem dX11_behind_4 : decode cX11_behind 4 = .ok (.iload_n 3, 1) := by decide +kernel
theorem dX11_behind_5 : decode cX11_behind 5 = .ok (.ifCond .le 23, 3) := by decide +kernel
theorem dX11_behind_8 : decode cX11_behind 8 = .ok (.iload_n 3, 1) := by decide +kernel
theorem dX11_behind_9 : decode cX11_behind 9 = .ok (.aload_n 0, 1) := by decide +kernel
theorem dX11_behind_10 : decode cX11_behind 10 = .ok (.getfield 59, 3) := by decide +kernel
theorem dX11_behind_13 : decode cX11_behind 13 = .ok (.iload_n 2, 1) := by decide +kernel
theorem dX11_behind_14 : decode cX11_behind 14 = .ok (.iaload, 1) := by decide +kernel
theorem dX11_behind_15 : decode cX11_behind 15 = .ok (.invokestatic 297, 3) := by decide +kernel
theorem dX11_behind_18 : decode cX11_behind 18 = .ok (.iconst 1, 1) := by decide +kernel
theorem dX11_behind_19 : decode cX11_behind 19 = .ok (.isub, 1) := by decide +kernel
theorem dX11_behind_20 : decode cX11_behind 20 = .ok (.iadd, 1) := by decide +kernel
theorem dX11_behind_21 : decode cX11_behind 21 = .ok (.istore_n 3, 1) := by decide +kernel
theorem dX11_behind_22 : decode cX11_behind 22 = .ok (.iinc 2 1, 3) := by decide +kernel
theorem dX11_behind_25 : decode cX11_behind 25 = .ok (.goto (-21), 3) := by decide +kernel
theorem dX11_behind_28 : decode cX11_behind 28 = .ok (.iload_n 2, 1) := by decide +kernel
theorem dX11_behind_29 : decode cX11_behind 29 = .ok (.ireturn, 1) := by decide +kernel
theorem dX11_redexAt_0 : decode cX11_redexAt 0 = .ok (.aload_n 0, 1) := by decide +kernel
theorem dX11_redexAt_1 : decode cX11_redexAt 1 = .ok (.getfield 59, 3) := by decide +kernel
theorem dX11_redexAt_4 : decode cX11_redexAt 4 = .ok (.iload_n 1, 1) := by decide +kernel
theorem dX11_redexAt_5 : decode cX11_redexAt 5 = .ok (.iaload, 1) := by decide +kernel
theorem dX11_redexAt_6 : decode cX11_redexAt 6 = .ok (.invokestatic 297, 3) := by decide +kernel
theorem dX11_redexAt_9 : decode cX11_redexAt 9 = .ok (.ifCond .ne 5, 3) := by decide +kernel
theorem dX11_redexAt_12 : decode cX11_redexAt 12 = .ok (.iconst 0, 1) := by decide +kernel
theorem dX11_redexAt_13 : decode cX11_redexAt 13 = .ok (.ireturn, 1) := by decide +kernel
theorem dX11_redexAt_14 : decode cX11_redexAt 14 = .ok (.aload_n 0, 1) := by decide +kernel
theorem dX11_redexAt_15 : decode cX11_redexAt 15 = .ok (.getfield 59, 3) := by decide +kernel
theorem dX11_redexAt_18 : decode cX11_redexAt 18 = .ok (.iload_n 1, 1) := by decide +kernel
theorem dX11_redexAt_19 : decode cX11_redexAt 19 = .ok (.iconst 1, 1) := by decide +kernel
theorem dX11_redexAt_20 : decode cX11_redexAt 20 = .ok (.iadd, 1) := by decide +kernel
theorem dX11_redexAt_21 : decode cX11_redexAt 21 = .ok (.iaload, 1) := by decide +kernel
theorem dX11_redexAt_22 : decode cX11_redexAt 22 = .ok (.istore_n 2, 1) := by decide +kernel
theorem dX11_redexAt_23 : decode cX11_redexAt 23 = .ok (.aload_n 0, 1) := by decide +kernel
theorem dX11_redexAt_24 : decode cX11_redexAt 24 = .ok (.getfield 59, 3) := by decide +kernel
theorem dX11_redexAt_27 : decode cX11_redexAt 27 = .ok (.iload_n 1, 1) := by decide +kernel
theorem dX11_redexAt_28 : decode cX11_redexAt 28 = .ok (.iaload, 1) := by decide +kernel
theorem dX11_redexAt_29 : decode cX11_redexAt 29 = .ok (.iconst 2, 1) := by decide +kernel
theorem dX11_redexAt_30 : decode cX11_redexAt 30 = .ok (.if_icmp .eq 45, 3) := by decide +kernel
theorem dX11_redexAt_33 : decode cX11_redexAt 33 = .ok (.aload_n 0, 1) := by decide +kernel
theorem dX11_redexAt_34 : decode cX11_redexAt 34 = .ok (.getfield 59, 3) := by decide +kernel
theorem dX11_redexAt_37 : decode cX11_redexAt 37 = .ok (.iload_n 1, 1) := by decide +kernel
theorem dX11_redexAt_38 : decode cX11_redexAt 38 = .ok (.iaload, 1) := by decide +kernel
theorem dX11_redexAt_39 : decode cX11_redexAt 39 = .ok (.iconst 4, 1) := by decide +kernel
theorem dX11_redexAt_40 : decode cX11_redexAt 40 = .ok (.if_icmp .eq 35, 3) := by decide +kernel
theorem dX11_redexAt_43 : decode cX11_redexAt 43 = .ok (.aload_n 0, 1) := by decide +kernel
theorem dX11_redexAt_44 : decode cX11_redexAt 44 = .ok (.getfield 59, 3) := by decide +kernel
theorem dX11_redexAt_47 : decode cX11_redexAt 47 = .ok (.iload_n 1, 1) := by decide +kernel
theorem dX11_redexAt_48 : decode cX11_redexAt 48 = .ok (.iaload, 1) := by decide +kernel
theorem dX11_redexAt_49 : decode cX11_redexAt 49 = .ok (.iconst 5, 1) := by decide +kernel
theorem dX11_redexAt_50 : decode cX11_redexAt 50 = .ok (.if_icmp .eq 25, 3) := by decide +kernel
theorem dX11_redexAt_53 : decode cX11_redexAt 53 = .ok (.aload_n 0, 1) := by decide +kernel
theorem dX11_redexAt_54 : decode cX11_redexAt 54 = .ok (.getfield 59, 3) := by decide +kernel
theorem dX11_redexAt_57 : decode cX11_redexAt 57 = .ok (.iload_n 1, 1) := by decide +kernel
theorem dX11_redexAt_58 : decode cX11_redexAt 58 = .ok (.iaload, 1) := by decide +kernel
theorem dX11_redexAt_59 : decode cX11_redexAt 59 = .ok (.bipush 8, 2) := by decide +kernel
theorem dX11_redexAt_61 : decode cX11_redexAt 61 = .ok (.if_icmp .eq 14, 3) := by decide +kernel
theorem dX11_redexAt_64 : decode cX11_redexAt 64 = .ok (.aload_n 0, 1) := by decide +kernel
theorem dX11_redexAt_65 : decode cX11_redexAt 65 = .ok (.getfield 59, 3) := by decide +kernel
theorem dX11_redexAt_68 : decode cX11_redexAt 68 = .ok (.iload_n 1, 1) := by decide +kernel
theorem dX11_redexAt_69 : decode cX11_redexAt 69 = .ok (.iaload, 1) := by decide +kernel
theorem dX11_redexAt_70 : decode cX11_redexAt 70 = .ok (.bipush 9, 2) := by decide +kernel
theorem dX11_redexAt_72 : decode cX11_redexAt 72 = .ok (.if_icmp .ne 7, 3) := by decide +kernel
theorem dX11_redexAt_75 : decode cX11_redexAt 75 = .ok (.iconst 1, 1) := by decide +kernel
theorem dX11_redexAt_76 : decode cX11_redexAt 76 = .ok (.goto 4, 3) := by decide +kernel
theorem dX11_redexAt_79 : decode cX11_redexAt 79 = .ok (.iconst 0, 1) := by decide +kernel
theorem dX11_redexAt_80 : decode cX11_redexAt 80 = .ok (.istore_n 3, 1) := by decide +kernel
theorem dX11_redexAt_81 : decode cX11_redexAt 81 = .ok (.iload_n 3, 1) := by decide +kernel
theorem dX11_redexAt_82 : decode cX11_redexAt 82 = .ok (.ifCond .ne 5, 3) := by decide +kernel
theorem dX11_redexAt_85 : decode cX11_redexAt 85 = .ok (.iconst 0, 1) := by decide +kernel
theorem dX11_redexAt_86 : decode cX11_redexAt 86 = .ok (.ireturn, 1) := by decide +kernel
theorem dX11_redexAt_87 : decode cX11_redexAt 87 = .ok (.iload_n 2, 1) := by decide +kernel
theorem dX11_redexAt_88 : decode cX11_redexAt 88 = .ok (.bipush 8, 2) := by decide +kernel
theorem dX11_redexAt_90 : decode cX11_redexAt 90 = .ok (.if_icmp .ne 6, 3) := by decide +kernel
theorem dX11_redexAt_93 : decode cX11_redexAt 93 = .ok (.bipush 6, 2) := by decide +kernel
theorem dX11_redexAt_95 : decode cX11_redexAt 95 = .ok (.ireturn, 1) := by decide +kernel
theorem dX11_redexAt_96 : decode cX11_redexAt 96 = .ok (.iload_n 2, 1) := by decide +kernel
theorem dX11_redexAt_97 : decode cX11_redexAt 97 = .ok (.bipush 9, 2) := by decide +kernel
theorem dX11_redexAt_99 : decode cX11_redexAt 99 = .ok (.if_icmp .ne 6, 3) := by decide +kernel
theorem dX11_redexAt_102 : decode cX11_redexAt 102 = .ok (.bipush 7, 2) := by decide +kernel
theorem dX11_redexAt_104 : decode cX11_redexAt 104 = .ok (.ireturn, 1) := by decide +kernel
theorem dX11_redexAt_105 : decode cX11_redexAt 105 = .ok (.aload_n 0, 1) := by decide +kernel
theorem dX11_redexAt_106 : decode cX11_redexAt 106 = .ok (.getfield 59, 3) := by decide +kernel
theorem dX11_redexAt_109 : decode cX11_redexAt 109 = .ok (.iload_n 1, 1) := by decide +kernel
theorem dX11_redexAt_110 : decode cX11_redexAt 110 = .ok (.iaload, 1) := by decide +kernel
theorem dX11_redexAt_111 : decode cX11_redexAt 111 = .ok (.tableswitch 96 2 8 #[41, 96, 52, 63, 96, 96, 74], 41) := by decide +kernel
theorem dX11_redexAt_152 : decode cX11_redexAt 152 = .ok (.iload_n 2, 1) := by decide +kernel
theorem dX11_redexAt_153 : decode cX11_redexAt 153 = .ok (.iconst 1, 1) := by decide +kernel
theorem dX11_redexAt_154 : decode cX11_redexAt 154 = .ok (.if_icmp .ne 7, 3) := by decide +kernel
theorem dX11_redexAt_157 : decode cX11_redexAt 157 = .ok (.iconst 1, 1) := by decide +kernel
theorem dX11_redexAt_158 : decode cX11_redexAt 158 = .ok (.goto 4, 3) := by decide +kernel
theorem dX11_redexAt_161 : decode cX11_redexAt 161 = .ok (.iconst 0, 1) := by decide +kernel
theorem dX11_redexAt_162 : decode cX11_redexAt 162 = .ok (.ireturn, 1) := by decide +kernel
theorem dX11_redexAt_163 : decode cX11_redexAt 163 = .ok (.iload_n 2, 1) := by decide +kernel
theorem dX11_redexAt_164 : decode cX11_redexAt 164 = .ok (.iconst 3, 1) := by decide +kernel
theorem dX11_redexAt_165 : decode cX11_redexAt 165 = .ok (.if_icmp .ne 7, 3) := by decide +kernel
theorem dX11_redexAt_168 : decode cX11_redexAt 168 = .ok (.iconst 2, 1) := by decide +kernel
theorem dX11_redexAt_169 : decode cX11_redexAt 169 = .ok (.goto 4, 3) := by decide +kernel
theorem dX11_redexAt_172 : decode cX11_redexAt 172 = .ok (.iconst 0, 1) := by decide +kernel
theorem dX11_redexAt_173 : decode cX11_redexAt 173 = .ok (.ireturn, 1) := by decide +kernel
theorem dX11_redexAt_174 : decode cX11_redexAt 174 = .ok (.iload_n 2, 1) := by decide +kernel
theorem dX11_redexAt_175 : decode cX11_redexAt 175 = .ok (.iconst 3, 1) := by decide +kernel
theorem dX11_redexAt_176 : decode cX11_redexAt 176 = .ok (.if_icmp .ne 7, 3) := by decide +kernel
theorem dX11_redexAt_179 : decode cX11_redexAt 179 = .ok (.iconst 3, 1) := by decide +kernel
theorem dX11_redexAt_180 : decode cX11_redexAt 180 = .ok (.goto 4, 3) := by decide +kernel
theorem dX11_redexAt_183 : decode cX11_redexAt 183 = .ok (.iconst 0, 1) := by decide +kernel
theorem dX11_redexAt_184 : decode cX11_redexAt 184 = .ok (.ireturn, 1) := by decide +kernel
theorem dX11_redexAt_185 : decode cX11_redexAt 185 = .ok (.iload_n 2, 1) := by decide +kernel
theorem dX11_redexAt_186 : decode cX11_redexAt 186 = .ok (.bipush 6, 2) := by decide +kernel
theorem dX11_redexAt_188 : decode cX11_redexAt 188 = .ok (.if_icmp .ne 7, 3) := by decide +kernel
theorem dX11_redexAt_191 : decode cX11_redexAt 191 = .ok (.iconst 4, 1) := by decide +kernel
theorem dX11_redexAt_192 : decode cX11_redexAt 192 = .ok (.goto 14, 3) := by decide +kernel
theorem dX11_redexAt_195 : decode cX11_redexAt 195 = .ok (.iload_n 2, 1) := by decide +kernel
theorem dX11_redexAt_196 : decode cX11_redexAt 196 = .ok (.bipush 7, 2) := by decide +kernel
theorem dX11_redexAt_198 : decode cX11_redexAt 198 = .ok (.if_icmp .ne 7, 3) := by decide +kernel
theorem dX11_redexAt_201 : decode cX11_redexAt 201 = .ok (.iconst 5, 1) := by decide +kernel
theorem dX11_redexAt_202 : decode cX11_redexAt 202 = .ok (.goto 4, 3) := by decide +kernel
theorem dX11_redexAt_205 : decode cX11_redexAt 205 = .ok (.iconst 0, 1) := by decide +kernel
theorem dX11_redexAt_206 : decode cX11_redexAt 206 = .ok (.ireturn, 1) := by decide +kernel
theorem dX11_redexAt_207 : decode cX11_redexAt 207 = .ok (.iconst 0, 1) := by decide +kernel
theorem dX11_redexAt_208 : decode cX11_redexAt 208 = .ok (.ireturn, 1) := by decide +kernel
theorem dX11_firstRedex_0 : decode cX11_firstRedex 0 = .ok (.iconst 0, 1) := by decide +kernel
theorem dX11_firstRedex_1 : decode cX11_firstRedex 1 = .ok (.istore_n 1, 1) := by decide +kernel
theorem dX11_firstRedex_2 : decode cX11_firstRedex 2 = .ok (.iload_n 1, 1) := by decide +kernel
theorem dX11_firstRedex_3 : decode cX11_firstRedex 3 = .ok (.aload_n 0, 1) := by decide +kernel
theorem dX11_firstRedex_4 : decode cX11_firstRedex 4 = .ok (.getfield 151, 3) := by decide +kernel
theorem dX11_firstRedex_7 : decode cX11_firstRedex 7 = .ok (.if_icmp .ge 17, 3) := by decide +kernel
theorem dX11_firstRedex_10 : decode cX11_firstRedex 10 = .ok (.aload_n 0, 1) := by decide +kernel
theorem dX11_firstRedex_11 : decode cX11_firstRedex 11 = .ok (.iload_n 1, 1) := by decide +kernel
theorem dX11_firstRedex_12 : decode cX11_firstRedex 12 = .ok (.invokevirtual 300, 3) := by decide +kernel
theorem dX11_firstRedex_15 : decode cX11_firstRedex 15 = .ok (.ifCond .ne 9, 3) := by decide +kernel
theorem dX11_firstRedex_18 : decode cX11_firstRedex 18 = .ok (.iinc 1 1, 3) := by decide +kernel
theorem dX11_firstRedex_21 : decode cX11_firstRedex 21 = .ok (.goto (-19), 3) := by decide +kernel
theorem dX11_firstRedex_24 : decode cX11_firstRedex 24 = .ok (.iload_n 1, 1) := by decide +kernel
theorem dX11_firstRedex_25 : decode cX11_firstRedex 25 = .ok (.aload_n 0, 1) := by decide +kernel
theorem dX11_firstRedex_26 : decode cX11_firstRedex 26 = .ok (.getfield 151, 3) := by decide +kernel
theorem dX11_firstRedex_29 : decode cX11_firstRedex 29 = .ok (.if_icmp .ne 7, 3) := by decide +kernel
theorem dX11_firstRedex_32 : decode cX11_firstRedex 32 = .ok (.iconst (-1), 1) := by decide +kernel
theorem dX11_firstRedex_33 : decode cX11_firstRedex 33 = .ok (.goto 4, 3) := by decide +kernel
theorem dX11_firstRedex_36 : decode cX11_firstRedex 36 = .ok (.iload_n 1, 1) := by decide +kernel
theorem dX11_firstRedex_37 : decode cX11_firstRedex 37 = .ok (.ireturn, 1) := by decide +kernel
theorem dX11_writes_0 : decode cX11_writes 0 = .ok (.aload_n 0, 1) := by decide +kernel
theorem dX11_writes_1 : decode cX11_writes 1 = .ok (.getfield 65, 3) := by decide +kernel
theorem dX11_writes_4 : decode cX11_writes 4 = .ok (.aload_n 0, 1) := by decide +kernel
theorem dX11_writes_5 : decode cX11_writes 5 = .ok (.getfield 303, 3) := by decide +kernel
theorem dX11_writes_8 : decode cX11_writes 8 = .ok (.iload_n 1, 1) := by decide +kernel
theorem dX11_writes_9 : decode cX11_writes 9 = .ok (.iastore, 1) := by decide +kernel
theorem dX11_writes_10 : decode cX11_writes 10 = .ok (.aload_n 0, 1) := by decide +kernel
theorem dX11_writes_11 : decode cX11_writes 11 = .ok (.getfield 68, 3) := by decide +kernel
theorem dX11_writes_14 : decode cX11_writes 14 = .ok (.aload_n 0, 1) := by decide +kernel
theorem dX11_writes_15 : decode cX11_writes 15 = .ok (.getfield 303, 3) := by decide +kernel
theorem dX11_writes_18 : decode cX11_writes 18 = .ok (.iload_n 2, 1) := by decide +kernel
theorem dX11_writes_19 : decode cX11_writes 19 = .ok (.iastore, 1) := by decide +kernel
theorem dX11_writes_20 : decode cX11_writes 20 = .ok (.aload_n 0, 1) := by decide +kernel
theorem dX11_writes_21 : decode cX11_writes 21 = .ok (.dup, 1) := by decide +kernel
theorem dX11_writes_22 : decode cX11_writes 22 = .ok (.getfield 303, 3) := by decide +kernel
theorem dX11_writes_25 : decode cX11_writes 25 = .ok (.iconst 1, 1) := by decide +kernel
theorem dX11_writes_26 : decode cX11_writes 26 = .ok (.iadd, 1) := by decide +kernel
theorem dX11_writes_27 : decode cX11_writes 27 = .ok (.putfield 303, 3) := by decide +kernel
theorem dX11_writes_30 : decode cX11_writes 30 = .ok (.return_, 1) := by decide +kernel
theorem dX11_copies_0 : decode cX11_copies 0 = .ok (.iload_n 1, 1) := by decide +kernel
theorem dX11_copies_1 : decode cX11_copies 1 = .ok (.istore 5, 2) := by decide +kernel
theorem dX11_copies_3 : decode cX11_copies 3 = .ok (.iload 5, 2) := by decide +kernel
theorem dX11_copies_5 : decode cX11_copies 5 = .ok (.iload_n 2, 1) := by decide +kernel
theorem dX11_copies_6 : decode cX11_copies 6 = .ok (.if_icmp .ge 61, 3) := by decide +kernel
theorem dX11_copies_9 : decode cX11_copies 9 = .ok (.aload_n 0, 1) := by decide +kernel
theorem dX11_copies_10 : decode cX11_copies 10 = .ok (.aload_n 0, 1) := by decide +kernel
theorem dX11_copies_11 : decode cX11_copies 11 = .ok (.getfield 59, 3) := by decide +kernel
theorem dX11_copies_14 : decode cX11_copies 14 = .ok (.iload 5, 2) := by decide +kernel
theorem dX11_copies_16 : decode cX11_copies 16 = .ok (.iaload, 1) := by decide +kernel
theorem dX11_copies_17 : decode cX11_copies 17 = .ok (.aload_n 0, 1) := by decide +kernel
theorem dX11_copies_18 : decode cX11_copies 18 = .ok (.getfield 59, 3) := by decide +kernel
theorem dX11_copies_21 : decode cX11_copies 21 = .ok (.iload 5, 2) := by decide +kernel
theorem dX11_copies_23 : decode cX11_copies 23 = .ok (.iaload, 1) := by decide +kernel
theorem dX11_copies_24 : decode cX11_copies 24 = .ok (.ifCond .ne 27, 3) := by decide +kernel
theorem dX11_copies_27 : decode cX11_copies 27 = .ok (.aload_n 0, 1) := by decide +kernel
theorem dX11_copies_28 : decode cX11_copies 28 = .ok (.getfield 62, 3) := by decide +kernel
theorem dX11_copies_31 : decode cX11_copies 31 = .ok (.iload 5, 2) := by decide +kernel
theorem dX11_copies_33 : decode cX11_copies 33 = .ok (.iaload, 1) := by decide +kernel
theorem dX11_copies_34 : decode cX11_copies 34 = .ok (.iload_n 3, 1) := by decide +kernel
theorem dX11_copies_35 : decode cX11_copies 35 = .ok (.if_icmp .lt 16, 3) := by decide +kernel
theorem dX11_copies_38 : decode cX11_copies 38 = .ok (.aload_n 0, 1) := by decide +kernel
theorem dX11_copies_39 : decode cX11_copies 39 = .ok (.getfield 62, 3) := by decide +kernel
theorem dX11_copies_42 : decode cX11_copies 42 = .ok (.iload 5, 2) := by decide +kernel
theorem dX11_copies_44 : decode cX11_copies 44 = .ok (.iaload, 1) := by decide +kernel
theorem dX11_copies_45 : decode cX11_copies 45 = .ok (.iload 4, 2) := by decide +kernel
theorem dX11_copies_47 : decode cX11_copies 47 = .ok (.iadd, 1) := by decide +kernel
theorem dX11_copies_48 : decode cX11_copies 48 = .ok (.goto 10, 3) := by decide +kernel
theorem dX11_copies_51 : decode cX11_copies 51 = .ok (.aload_n 0, 1) := by decide +kernel
theorem dX11_copies_52 : decode cX11_copies 52 = .ok (.getfield 62, 3) := by decide +kernel
theorem dX11_copies_55 : decode cX11_copies 55 = .ok (.iload 5, 2) := by decide +kernel
theorem dX11_copies_57 : decode cX11_copies 57 = .ok (.iaload, 1) := by decide +kernel
theorem dX11_copies_58 : decode cX11_copies 58 = .ok (.invokevirtual 306, 3) := by decide +kernel
theorem dX11_copies_61 : decode cX11_copies 61 = .ok (.iinc 5 1, 3) := by decide +kernel
theorem dX11_copies_64 : decode cX11_copies 64 = .ok (.goto (-61), 3) := by decide +kernel
theorem dX11_copies_67 : decode cX11_copies 67 = .ok (.return_, 1) := by decide +kernel
theorem dX11_puts_0 : decode cX11_puts 0 = .ok (.aload_n 0, 1) := by decide +kernel
theorem dX11_puts_1 : decode cX11_puts 1 = .ok (.iload_n 1, 1) := by decide +kernel
theorem dX11_puts_2 : decode cX11_puts 2 = .ok (.invokevirtual 309, 3) := by decide +kernel
theorem dX11_puts_5 : decode cX11_puts 5 = .ok (.istore 4, 2) := by decide +kernel
theorem dX11_puts_7 : decode cX11_puts 7 = .ok (.aload_n 0, 1) := by decide +kernel
theorem dX11_puts_8 : decode cX11_puts 8 = .ok (.iload_n 3, 1) := by decide +kernel
theorem dX11_puts_9 : decode cX11_puts 9 = .ok (.invokevirtual 309, 3) := by decide +kernel
theorem dX11_puts_12 : decode cX11_puts 12 = .ok (.istore 5, 2) := by decide +kernel
theorem dX11_puts_14 : decode cX11_puts 14 = .ok (.iload_n 1, 1) := by decide +kernel
theorem dX11_puts_15 : decode cX11_puts 15 = .ok (.istore 6, 2) := by decide +kernel
theorem dX11_puts_17 : decode cX11_puts 17 = .ok (.iload 6, 2) := by decide +kernel
theorem dX11_puts_19 : decode cX11_puts 19 = .ok (.iload 4, 2) := by decide +kernel
theorem dX11_puts_21 : decode cX11_puts 21 = .ok (.if_icmp .ge 64, 3) := by decide +kernel
theorem dX11_puts_24 : decode cX11_puts 24 = .ok (.aload_n 0, 1) := by decide +kernel
theorem dX11_puts_25 : decode cX11_puts 25 = .ok (.getfield 59, 3) := by decide +kernel
theorem dX11_puts_28 : decode cX11_puts 28 = .ok (.iload 6, 2) := by decide +kernel
theorem dX11_puts_30 : decode cX11_puts 30 = .ok (.iaload, 1) := by decide +kernel
theorem dX11_puts_31 : decode cX11_puts 31 = .ok (.ifCond .ne 36, 3) := by decide +kernel
theorem dX11_puts_34 : decode cX11_puts 34 = .ok (.aload_n 0, 1) := by decide +kernel
theorem dX11_puts_35 : decode cX11_puts 35 = .ok (.getfield 62, 3) := by decide +kernel
theorem dX11_puts_38 : decode cX11_puts 38 = .ok (.iload 6, 2) := by decide +kernel
theorem dX11_puts_40 : decode cX11_puts 40 = .ok (.iaload, 1) := by decide +kernel
theorem dX11_puts_41 : decode cX11_puts 41 = .ok (.iload_n 2, 1) := by decide +kernel
theorem dX11_puts_42 : decode cX11_puts 42 = .ok (.if_icmp .ne 25, 3) := by decide +kernel
theorem dX11_puts_45 : decode cX11_puts 45 = .ok (.aload_n 0, 1) := by decide +kernel
theorem dX11_puts_46 : decode cX11_puts 46 = .ok (.iload_n 3, 1) := by decide +kernel
theorem dX11_puts_47 : decode cX11_puts 47 = .ok (.iload 5, 2) := by decide +kernel
theorem dX11_puts_49 : decode cX11_puts 49 = .ok (.iload_n 2, 1) := by decide +kernel
theorem dX11_puts_50 : decode cX11_puts 50 = .ok (.aload_n 0, 1) := by decide +kernel
theorem dX11_puts_51 : decode cX11_puts 51 = .ok (.getfield 90, 3) := by decide +kernel
theorem dX11_puts_54 : decode cX11_puts 54 = .ok (.iload 6, 2) := by decide +kernel
theorem dX11_puts_56 : decode cX11_puts 56 = .ok (.iaload, 1) := by decide +kernel
theorem dX11_puts_57 : decode cX11_puts 57 = .ok (.iconst 1, 1) := by decide +kernel
theorem dX11_puts_58 : decode cX11_puts 58 = .ok (.isub, 1) := by decide +kernel
theorem dX11_puts_59 : decode cX11_puts 59 = .ok (.iload_n 2, 1) := by decide +kernel
theorem dX11_puts_60 : decode cX11_puts 60 = .ok (.isub, 1) := by decide +kernel
theorem dX11_puts_61 : decode cX11_puts 61 = .ok (.invokevirtual 312, 3) := by decide +kernel
theorem dX11_puts_64 : decode cX11_puts 64 = .ok (.goto 15, 3) := by decide +kernel
theorem dX11_puts_67 : decode cX11_puts 67 = .ok (.aload_n 0, 1) := by decide +kernel
theorem dX11_puts_68 : decode cX11_puts 68 = .ok (.iload 6, 2) := by decide +kernel
theorem dX11_puts_70 : decode cX11_puts 70 = .ok (.iload 6, 2) := by decide +kernel
theorem dX11_puts_72 : decode cX11_puts 72 = .ok (.iconst 1, 1) := by decide +kernel
theorem dX11_puts_73 : decode cX11_puts 73 = .ok (.iadd, 1) := by decide +kernel
theorem dX11_puts_74 : decode cX11_puts 74 = .ok (.iload_n 2, 1) := by decide +kernel
theorem dX11_puts_75 : decode cX11_puts 75 = .ok (.iconst (-1), 1) := by decide +kernel
theorem dX11_puts_76 : decode cX11_puts 76 = .ok (.invokevirtual 312, 3) := by decide +kernel
theorem dX11_puts_79 : decode cX11_puts 79 = .ok (.iinc 6 1, 3) := by decide +kernel
theorem dX11_puts_82 : decode cX11_puts 82 = .ok (.goto (-65), 3) := by decide +kernel
theorem dX11_puts_85 : decode cX11_puts 85 = .ok (.return_, 1) := by decide +kernel
theorem dX11_timesIn_0 : decode cX11_timesIn 0 = .ok (.iconst 0, 1) := by decide +kernel
theorem dX11_timesIn_1 : decode cX11_timesIn 1 = .ok (.istore_n 3, 1) := by decide +kernel
theorem dX11_timesIn_2 : decode cX11_timesIn 2 = .ok (.aload_n 0, 1) := by decide +kernel
theorem dX11_timesIn_3 : decode cX11_timesIn 3 = .ok (.iload_n 1, 1) := by decide +kernel
theorem dX11_timesIn_4 : decode cX11_timesIn 4 = .ok (.invokevirtual 309, 3) := by decide +kernel
theorem dX11_timesIn_7 : decode cX11_timesIn 7 = .ok (.istore 4, 2) := by decide +kernel
theorem dX11_timesIn_9 : decode cX11_timesIn 9 = .ok (.iload_n 1, 1) := by decide +kernel
theorem dX11_timesIn_10 : decode cX11_timesIn 10 = .ok (.istore 5, 2) := by decide +kernel
theorem dX11_timesIn_12 : decode cX11_timesIn 12 = .ok (.iload 5, 2) := by decide +kernel
theorem dX11_timesIn_14 : decode cX11_timesIn 14 = .ok (.iload 4, 2) := by decide +kernel
theorem dX11_timesIn_16 : decode cX11_timesIn 16 = .ok (.if_icmp .ge 38, 3) := by decide +kernel
theorem dX11_timesIn_19 : decode cX11_timesIn 19 = .ok (.iload_n 3, 1) := by decide +kernel
theorem dX11_timesIn_20 : decode cX11_timesIn 20 = .ok (.aload_n 0, 1) := by decide +kernel
theorem dX11_timesIn_21 : decode cX11_timesIn 21 = .ok (.getfield 59, 3) := by decide +kernel
theorem dX11_timesIn_24 : decode cX11_timesIn 24 = .ok (.iload 5, 2) := by decide +kernel
theorem dX11_timesIn_26 : decode cX11_timesIn 26 = .ok (.iaload, 1) := by decide +kernel
theorem dX11_timesIn_27 : decode cX11_timesIn 27 = .ok (.ifCond .ne 18, 3) := by decide +kernel
theorem dX11_timesIn_30 : decode cX11_timesIn 30 = .ok (.aload_n 0, 1) := by decide +kernel
theorem dX11_timesIn_31 : decode cX11_timesIn 31 = .ok (.getfield 62, 3) := by decide +kernel
theorem dX11_timesIn_34 : decode cX11_timesIn 34 = .ok (.iload 5, 2) := by decide +kernel
theorem dX11_timesIn_36 : decode cX11_timesIn 36 = .ok (.iaload, 1) := by decide +kernel
theorem dX11_timesIn_37 : decode cX11_timesIn 37 = .ok (.iload_n 2, 1) := by decide +kernel
theorem dX11_timesIn_38 : decode cX11_timesIn 38 = .ok (.if_icmp .ne 7, 3) := by decide +kernel
theorem dX11_timesIn_41 : decode cX11_timesIn 41 = .ok (.iconst 1, 1) := by decide +kernel
theorem dX11_timesIn_42 : decode cX11_timesIn 42 = .ok (.goto 4, 3) := by decide +kernel
theorem dX11_timesIn_45 : decode cX11_timesIn 45 = .ok (.iconst 0, 1) := by decide +kernel
theorem dX11_timesIn_46 : decode cX11_timesIn 46 = .ok (.iadd, 1) := by decide +kernel
theorem dX11_timesIn_47 : decode cX11_timesIn 47 = .ok (.istore_n 3, 1) := by decide +kernel
theorem dX11_timesIn_48 : decode cX11_timesIn 48 = .ok (.iinc 5 1, 3) := by decide +kernel
theorem dX11_timesIn_51 : decode cX11_timesIn 51 = .ok (.goto (-39), 3) := by decide +kernel
theorem dX11_timesIn_54 : decode cX11_timesIn 54 = .ok (.iload_n 3, 1) := by decide +kernel
theorem dX11_timesIn_55 : decode cX11_timesIn 55 = .ok (.ireturn, 1) := by decide +kernel
theorem dX11_turns_0 : decode cX11_turns 0 = .ok (.aload_n 0, 1) := by decide +kernel
theorem dX11_turns_1 : decode cX11_turns 1 = .ok (.aload_n 0, 1) := by decide +kernel
theorem dX11_turns_2 : decode cX11_turns 2 = .ok (.getfield 303, 3) := by decide +kernel
theorem dX11_turns_5 : decode cX11_turns 5 = .ok (.putfield 151, 3) := by decide +kernel
theorem dX11_turns_8 : decode cX11_turns 8 = .ok (.iconst 0, 1) := by decide +kernel
theorem dX11_turns_9 : decode cX11_turns 9 = .ok (.istore_n 1, 1) := by decide +kernel
theorem dX11_turns_10 : decode cX11_turns 10 = .ok (.iload_n 1, 1) := by decide +kernel
theorem dX11_turns_11 : decode cX11_turns 11 = .ok (.aload_n 0, 1) := by decide +kernel
theorem dX11_turns_12 : decode cX11_turns 12 = .ok (.getfield 151, 3) := by decide +kernel
theorem dX11_turns_15 : decode cX11_turns 15 = .ok (.if_icmp .ge 33, 3) := by decide +kernel
theorem dX11_turns_18 : decode cX11_turns 18 = .ok (.aload_n 0, 1) := by decide +kernel
theorem dX11_turns_19 : decode cX11_turns 19 = .ok (.getfield 59, 3) := by decide +kernel
theorem dX11_turns_22 : decode cX11_turns 22 = .ok (.iload_n 1, 1) := by decide +kernel
theorem dX11_turns_23 : decode cX11_turns 23 = .ok (.aload_n 0, 1) := by decide +kernel
theorem dX11_turns_24 : decode cX11_turns 24 = .ok (.getfield 65, 3) := by decide +kernel
theorem dX11_turns_27 : decode cX11_turns 27 = .ok (.iload_n 1, 1) := by decide +kernel
theorem dX11_turns_28 : decode cX11_turns 28 = .ok (.iaload, 1) := by decide +kernel
theorem dX11_turns_29 : decode cX11_turns 29 = .ok (.iastore, 1) := by decide +kernel
theorem dX11_turns_30 : decode cX11_turns 30 = .ok (.aload_n 0, 1) := by decide +kernel
theorem dX11_turns_31 : decode cX11_turns 31 = .ok (.getfield 62, 3) := by decide +kernel
theorem dX11_turns_34 : decode cX11_turns 34 = .ok (.iload_n 1, 1) := by decide +kernel
theorem dX11_turns_35 : decode cX11_turns 35 = .ok (.aload_n 0, 1) := by decide +kernel
theorem dX11_turns_36 : decode cX11_turns 36 = .ok (.getfield 68, 3) := by decide +kernel
theorem dX11_turns_39 : decode cX11_turns 39 = .ok (.iload_n 1, 1) := by decide +kernel
theorem dX11_turns_40 : decode cX11_turns 40 = .ok (.iaload, 1) := by decide +kernel
theorem dX11_turns_41 : decode cX11_turns 41 = .ok (.iastore, 1) := by decide +kernel
theorem dX11_turns_42 : decode cX11_turns 42 = .ok (.iinc 1 1, 3) := by decide +kernel
theorem dX11_turns_45 : decode cX11_turns 45 = .ok (.goto (-35), 3) := by decide +kernel
theorem dX11_turns_48 : decode cX11_turns 48 = .ok (.return_, 1) := by decide +kernel
theorem dX11_inner_0 : decode cX11_inner 0 = .ok (.iload_n 1, 1) := by decide +kernel
theorem dX11_inner_1 : decode cX11_inner 1 = .ok (.iconst 1, 1) := by decide +kernel
theorem dX11_inner_2 : decode cX11_inner 2 = .ok (.iadd, 1) := by decide +kernel
theorem dX11_inner_3 : decode cX11_inner 3 = .ok (.istore_n 3, 1) := by decide +kernel
theorem dX11_inner_4 : decode cX11_inner 4 = .ok (.iconst 0, 1) := by decide +kernel
theorem dX11_inner_5 : decode cX11_inner 5 = .ok (.istore 4, 2) := by decide +kernel
theorem dX11_inner_7 : decode cX11_inner 7 = .ok (.iload 4, 2) := by decide +kernel
theorem dX11_inner_9 : decode cX11_inner 9 = .ok (.iload_n 2, 1) := by decide +kernel
theorem dX11_inner_10 : decode cX11_inner 10 = .ok (.if_icmp .ge 15, 3) := by decide +kernel
theorem dX11_inner_13 : decode cX11_inner 13 = .ok (.aload_n 0, 1) := by decide +kernel
theorem dX11_inner_14 : decode cX11_inner 14 = .ok (.iload_n 3, 1) := by decide +kernel
theorem dX11_inner_15 : decode cX11_inner 15 = .ok (.invokevirtual 309, 3) := by decide +kernel
theorem dX11_inner_18 : decode cX11_inner 18 = .ok (.istore_n 3, 1) := by decide +kernel
theorem dX11_inner_19 : decode cX11_inner 19 = .ok (.iinc 4 1, 3) := by decide +kernel
theorem dX11_inner_22 : decode cX11_inner 22 = .ok (.goto (-15), 3) := by decide +kernel
theorem dX11_inner_25 : decode cX11_inner 25 = .ok (.iload_n 3, 1) := by decide +kernel
theorem dX11_inner_26 : decode cX11_inner 26 = .ok (.ireturn, 1) := by decide +kernel
theorem dX11_nodesOf_0 : decode cX11_nodesOf 0 = .ok (.aload_n 0, 1) := by decide +kernel
theorem dX11_nodesOf_1 : decode cX11_nodesOf 1 = .ok (.iload_n 1, 1) := by decide +kernel
theorem dX11_nodesOf_2 : decode cX11_nodesOf 2 = .ok (.invokevirtual 309, 3) := by decide +kernel
theorem dX11_nodesOf_5 : decode cX11_nodesOf 5 = .ok (.iload_n 1, 1) := by decide +kernel
theorem dX11_nodesOf_6 : decode cX11_nodesOf 6 = .ok (.isub, 1) := by decide +kernel
theorem dX11_nodesOf_7 : decode cX11_nodesOf 7 = .ok (.ireturn, 1) := by decide +kernel
theorem dX11_willBe_0 : decode cX11_willBe 0 = .ok (.aload_n 0, 1) := by decide +kernel
theorem dX11_willBe_1 : decode cX11_willBe 1 = .ok (.getfield 151, 3) := by decide +kernel
theorem dX11_willBe_4 : decode cX11_willBe 4 = .ok (.aload_n 0, 1) := by decide +kernel
theorem dX11_willBe_5 : decode cX11_willBe 5 = .ok (.iload_n 1, 1) := by decide +kernel
theorem dX11_willBe_6 : decode cX11_willBe 6 = .ok (.invokevirtual 316, 3) := by decide +kernel
theorem dX11_willBe_9 : decode cX11_willBe 9 = .ok (.isub, 1) := by decide +kernel
theorem dX11_willBe_10 : decode cX11_willBe 10 = .ok (.istore_n 3, 1) := by decide +kernel
theorem dX11_willBe_11 : decode cX11_willBe 11 = .ok (.iload_n 1, 1) := by decide +kernel
theorem dX11_willBe_12 : decode cX11_willBe 12 = .ok (.iconst 1, 1) := by decide +kernel
theorem dX11_willBe_13 : decode cX11_willBe 13 = .ok (.iadd, 1) := by decide +kernel
theorem dX11_willBe_14 : decode cX11_willBe 14 = .ok (.istore 4, 2) := by decide +kernel
theorem dX11_willBe_16 : decode cX11_willBe 16 = .ok (.iload_n 2, 1) := by decide +kernel
theorem dX11_willBe_17 : decode cX11_willBe 17 = .ok (.tableswitch 163 1 6 #[39, 62, 76, 90, 116, 142], 39) := by decide +kernel
theorem dX11_willBe_56 : decode cX11_willBe 56 = .ok (.iload_n 3, 1) := by decide +kernel
theorem dX11_willBe_57 : decode cX11_willBe 57 = .ok (.aload_n 0, 1) := by decide +kernel
theorem dX11_willBe_58 : decode cX11_willBe 58 = .ok (.iload 4, 2) := by decide +kernel
theorem dX11_willBe_60 : decode cX11_willBe 60 = .ok (.iconst 1, 1) := by decide +kernel
theorem dX11_willBe_61 : decode cX11_willBe 61 = .ok (.iadd, 1) := by decide +kernel
theorem dX11_willBe_62 : decode cX11_willBe 62 = .ok (.aload_n 0, 1) := by decide +kernel
theorem dX11_willBe_63 : decode cX11_willBe 63 = .ok (.getfield 90, 3) := by decide +kernel
theorem dX11_willBe_66 : decode cX11_willBe 66 = .ok (.iload_n 1, 1) := by decide +kernel
theorem dX11_willBe_67 : decode cX11_willBe 67 = .ok (.iaload, 1) := by decide +kernel
theorem dX11_willBe_68 : decode cX11_willBe 68 = .ok (.aload_n 0, 1) := by decide +kernel
theorem dX11_willBe_69 : decode cX11_willBe 69 = .ok (.iload_n 1, 1) := by decide +kernel
theorem dX11_willBe_70 : decode cX11_willBe 70 = .ok (.iconst 1, 1) := by decide +kernel
theorem dX11_willBe_71 : decode cX11_willBe 71 = .ok (.invokevirtual 319, 3) := by decide +kernel
theorem dX11_willBe_74 : decode cX11_willBe 74 = .ok (.invokevirtual 322, 3) := by decide +kernel
theorem dX11_willBe_77 : decode cX11_willBe 77 = .ok (.iadd, 1) := by decide +kernel
theorem dX11_willBe_78 : decode cX11_willBe 78 = .ok (.ireturn, 1) := by decide +kernel
theorem dX11_willBe_79 : decode cX11_willBe 79 = .ok (.iload_n 3, 1) := by decide +kernel
theorem dX11_willBe_80 : decode cX11_willBe 80 = .ok (.aload_n 0, 1) := by decide +kernel
theorem dX11_willBe_81 : decode cX11_willBe 81 = .ok (.aload_n 0, 1) := by decide +kernel
theorem dX11_willBe_82 : decode cX11_willBe 82 = .ok (.iload 4, 2) := by decide +kernel
theorem dX11_willBe_84 : decode cX11_willBe 84 = .ok (.iconst 0, 1) := by decide +kernel
theorem dX11_willBe_85 : decode cX11_willBe 85 = .ok (.invokevirtual 319, 3) := by decide +kernel
theorem dX11_willBe_88 : decode cX11_willBe 88 = .ok (.invokevirtual 316, 3) := by decide +kernel
theorem dX11_willBe_91 : decode cX11_willBe 91 = .ok (.iadd, 1) := by decide +kernel
theorem dX11_willBe_92 : decode cX11_willBe 92 = .ok (.ireturn, 1) := by decide +kernel
theorem dX11_willBe_93 : decode cX11_willBe 93 = .ok (.iload_n 3, 1) := by decide +kernel
theorem dX11_willBe_94 : decode cX11_willBe 94 = .ok (.aload_n 0, 1) := by decide +kernel
theorem dX11_willBe_95 : decode cX11_willBe 95 = .ok (.aload_n 0, 1) := by decide +kernel
theorem dX11_willBe_96 : decode cX11_willBe 96 = .ok (.iload 4, 2) := by decide +kernel
theorem dX11_willBe_98 : decode cX11_willBe 98 = .ok (.iconst 1, 1) := by decide +kernel
theorem dX11_willBe_99 : decode cX11_willBe 99 = .ok (.invokevirtual 319, 3) := by decide +kernel
theorem dX11_willBe_102 : decode cX11_willBe 102 = .ok (.invokevirtual 316, 3) := by decide +kernel
theorem dX11_willBe_105 : decode cX11_willBe 105 = .ok (.iadd, 1) := by decide +kernel
theorem dX11_willBe_106 : decode cX11_willBe 106 = .ok (.ireturn, 1) := by decide +kernel
theorem dX11_willBe_107 : decode cX11_willBe 107 = .ok (.iload_n 3, 1) := by decide +kernel
theorem dX11_willBe_108 : decode cX11_willBe 108 = .ok (.aload_n 0, 1) := by decide +kernel
theorem dX11_willBe_109 : decode cX11_willBe 109 = .ok (.aload_n 0, 1) := by decide +kernel
theorem dX11_willBe_110 : decode cX11_willBe 110 = .ok (.iload_n 1, 1) := by decide +kernel
theorem dX11_willBe_111 : decode cX11_willBe 111 = .ok (.iconst 1, 1) := by decide +kernel
theorem dX11_willBe_112 : decode cX11_willBe 112 = .ok (.invokevirtual 319, 3) := by decide +kernel
theorem dX11_willBe_115 : decode cX11_willBe 115 = .ok (.aload_n 0, 1) := by decide +kernel
theorem dX11_willBe_116 : decode cX11_willBe 116 = .ok (.getfield 90, 3) := by decide +kernel
theorem dX11_willBe_119 : decode cX11_willBe 119 = .ok (.iload_n 1, 1) := by decide +kernel
theorem dX11_willBe_120 : decode cX11_willBe 120 = .ok (.iaload, 1) := by decide +kernel
theorem dX11_willBe_121 : decode cX11_willBe 121 = .ok (.aload_n 0, 1) := by decide +kernel
theorem dX11_willBe_122 : decode cX11_willBe 122 = .ok (.iload 4, 2) := by decide +kernel
theorem dX11_willBe_124 : decode cX11_willBe 124 = .ok (.iconst 0, 1) := by decide +kernel
theorem dX11_willBe_125 : decode cX11_willBe 125 = .ok (.invokevirtual 319, 3) := by decide +kernel
theorem dX11_willBe_128 : decode cX11_willBe 128 = .ok (.invokevirtual 322, 3) := by decide +kernel
theorem dX11_willBe_131 : decode cX11_willBe 131 = .ok (.iadd, 1) := by decide +kernel
theorem dX11_willBe_132 : decode cX11_willBe 132 = .ok (.ireturn, 1) := by decide +kernel
theorem dX11_willBe_133 : decode cX11_willBe 133 = .ok (.iload_n 3, 1) := by decide +kernel
theorem dX11_willBe_134 : decode cX11_willBe 134 = .ok (.aload_n 0, 1) := by decide +kernel
theorem dX11_willBe_135 : decode cX11_willBe 135 = .ok (.aload_n 0, 1) := by decide +kernel
theorem dX11_willBe_136 : decode cX11_willBe 136 = .ok (.iload_n 1, 1) := by decide +kernel
theorem dX11_willBe_137 : decode cX11_willBe 137 = .ok (.iconst 2, 1) := by decide +kernel
theorem dX11_willBe_138 : decode cX11_willBe 138 = .ok (.invokevirtual 319, 3) := by decide +kernel
theorem dX11_willBe_141 : decode cX11_willBe 141 = .ok (.aload_n 0, 1) := by decide +kernel
theorem dX11_willBe_142 : decode cX11_willBe 142 = .ok (.getfield 90, 3) := by decide +kernel
theorem dX11_willBe_145 : decode cX11_willBe 145 = .ok (.iload_n 1, 1) := by decide +kernel
theorem dX11_willBe_146 : decode cX11_willBe 146 = .ok (.iaload, 1) := by decide +kernel
theorem dX11_willBe_147 : decode cX11_willBe 147 = .ok (.aload_n 0, 1) := by decide +kernel
theorem dX11_willBe_148 : decode cX11_willBe 148 = .ok (.iload 4, 2) := by decide +kernel
theorem dX11_willBe_150 : decode cX11_willBe 150 = .ok (.iconst 0, 1) := by decide +kernel
theorem dX11_willBe_151 : decode cX11_willBe 151 = .ok (.invokevirtual 319, 3) := by decide +kernel
theorem dX11_willBe_154 : decode cX11_willBe 154 = .ok (.invokevirtual 322, 3) := by decide +kernel
theorem dX11_willBe_157 : decode cX11_willBe 157 = .ok (.iadd, 1) := by decide +kernel
theorem dX11_willBe_158 : decode cX11_willBe 158 = .ok (.ireturn, 1) := by decide +kernel
theorem dX11_willBe_159 : decode cX11_willBe 159 = .ok (.iload_n 3, 1) := by decide +kernel
theorem dX11_willBe_160 : decode cX11_willBe 160 = .ok (.aload_n 0, 1) := by decide +kernel
theorem dX11_willBe_161 : decode cX11_willBe 161 = .ok (.iload_n 1, 1) := by decide +kernel
theorem dX11_willBe_162 : decode cX11_willBe 162 = .ok (.invokevirtual 316, 3) := by decide +kernel
theorem dX11_willBe_165 : decode cX11_willBe 165 = .ok (.iadd, 1) := by decide +kernel
theorem dX11_willBe_166 : decode cX11_willBe 166 = .ok (.aload_n 0, 1) := by decide +kernel
theorem dX11_willBe_167 : decode cX11_willBe 167 = .ok (.iload_n 1, 1) := by decide +kernel
theorem dX11_willBe_168 : decode cX11_willBe 168 = .ok (.invokevirtual 316, 3) := by decide +kernel
theorem dX11_willBe_171 : decode cX11_willBe 171 = .ok (.iadd, 1) := by decide +kernel
theorem dX11_willBe_172 : decode cX11_willBe 172 = .ok (.aload_n 0, 1) := by decide +kernel
theorem dX11_willBe_173 : decode cX11_willBe 173 = .ok (.iload 4, 2) := by decide +kernel
theorem dX11_willBe_175 : decode cX11_willBe 175 = .ok (.invokevirtual 316, 3) := by decide +kernel
theorem dX11_willBe_178 : decode cX11_willBe 178 = .ok (.isub, 1) := by decide +kernel
theorem dX11_willBe_179 : decode cX11_willBe 179 = .ok (.ireturn, 1) := by decide +kernel
theorem dX11_willBe_180 : decode cX11_willBe 180 = .ok (.iload_n 3, 1) := by decide +kernel
theorem dX11_willBe_181 : decode cX11_willBe 181 = .ok (.iconst 1, 1) := by decide +kernel
theorem dX11_willBe_182 : decode cX11_willBe 182 = .ok (.iadd, 1) := by decide +kernel
theorem dX11_willBe_183 : decode cX11_willBe 183 = .ok (.aload_n 0, 1) := by decide +kernel
theorem dX11_willBe_184 : decode cX11_willBe 184 = .ok (.aload_n 0, 1) := by decide +kernel
theorem dX11_willBe_185 : decode cX11_willBe 185 = .ok (.iload 4, 2) := by decide +kernel
theorem dX11_willBe_187 : decode cX11_willBe 187 = .ok (.iconst 0, 1) := by decide +kernel
theorem dX11_willBe_188 : decode cX11_willBe 188 = .ok (.invokevirtual 319, 3) := by decide +kernel
theorem dX11_willBe_191 : decode cX11_willBe 191 = .ok (.invokevirtual 316, 3) := by decide +kernel
theorem dX11_willBe_194 : decode cX11_willBe 194 = .ok (.iadd, 1) := by decide +kernel
theorem dX11_willBe_195 : decode cX11_willBe 195 = .ok (.ireturn, 1) := by decide +kernel
theorem dX11_withIn_0 : decode cX11_withIn 0 = .ok (.aload_n 0, 1) := by decide +kernel
theorem dX11_withIn_1 : decode cX11_withIn 1 = .ok (.iload_n 1, 1) := by decide +kernel
theorem dX11_withIn_2 : decode cX11_withIn 2 = .ok (.invokevirtual 316, 3) := by decide +kernel
theorem dX11_withIn_5 : decode cX11_withIn 5 = .ok (.aload_n 0, 1) := by decide +kernel
theorem dX11_withIn_6 : decode cX11_withIn 6 = .ok (.iload_n 1, 1) := by decide +kernel
theorem dX11_withIn_7 : decode cX11_withIn 7 = .ok (.iload_n 2, 1) := by decide +kernel
theorem dX11_withIn_8 : decode cX11_withIn 8 = .ok (.invokevirtual 325, 3) := by decide +kernel
theorem dX11_withIn_11 : decode cX11_withIn 11 = .ok (.aload_n 0, 1) := by decide +kernel
theorem dX11_withIn_12 : decode cX11_withIn 12 = .ok (.iload_n 3, 1) := by decide +kernel
theorem dX11_withIn_13 : decode cX11_withIn 13 = .ok (.invokevirtual 316, 3) := by decide +kernel
theorem dX11_withIn_16 : decode cX11_withIn 16 = .ok (.iconst 1, 1) := by decide +kernel
theorem dX11_withIn_17 : decode cX11_withIn 17 = .ok (.isub, 1) := by decide +kernel
theorem dX11_withIn_18 : decode cX11_withIn 18 = .ok (.imul, 1) := by decide +kernel
theorem dX11_withIn_19 : decode cX11_withIn 19 = .ok (.iadd, 1) := by decide +kernel
theorem dX11_withIn_20 : decode cX11_withIn 20 = .ok (.ireturn, 1) := by decide +kernel
theorem dX11_steps_0 : decode cX11_steps 0 = .ok (.aload_n 0, 1) := by decide +kernel
theorem dX11_steps_1 : decode cX11_steps 1 = .ok (.invokevirtual 328, 3) := by decide +kernel
theorem dX11_steps_4 : decode cX11_steps 4 = .ok (.istore_n 1, 1) := by decide +kernel
theorem dX11_steps_5 : decode cX11_steps 5 = .ok (.iload_n 1, 1) := by decide +kernel
theorem dX11_steps_6 : decode cX11_steps 6 = .ok (.iconst (-1), 1) := by decide +kernel
theorem dX11_steps_7 : decode cX11_steps 7 = .ok (.if_icmp .ne 5, 3) := by decide +kernel
theorem dX11_steps_10 : decode cX11_steps 10 = .ok (.iconst 0, 1) := by decide +kernel
theorem dX11_steps_11 : decode cX11_steps 11 = .ok (.ireturn, 1) := by decide +kernel
theorem dX11_steps_12 : decode cX11_steps 12 = .ok (.aload_n 0, 1) := by decide +kernel
theorem dX11_steps_13 : decode cX11_steps 13 = .ok (.iload_n 1, 1) := by decide +kernel
theorem dX11_steps_14 : decode cX11_steps 14 = .ok (.invokevirtual 300, 3) := by decide +kernel
theorem dX11_steps_17 : decode cX11_steps 17 = .ok (.istore_n 2, 1) := by decide +kernel
theorem dX11_steps_18 : decode cX11_steps 18 = .ok (.aload_n 0, 1) := by decide +kernel
theorem dX11_steps_19 : decode cX11_steps 19 = .ok (.invokevirtual 331, 3) := by decide +kernel
theorem dX11_steps_22 : decode cX11_steps 22 = .ok (.istore_n 3, 1) := by decide +kernel
theorem dX11_steps_23 : decode cX11_steps 23 = .ok (.aload_n 0, 1) := by decide +kernel
theorem dX11_steps_24 : decode cX11_steps 24 = .ok (.iload_n 1, 1) := by decide +kernel
theorem dX11_steps_25 : decode cX11_steps 25 = .ok (.iload_n 2, 1) := by decide +kernel
theorem dX11_steps_26 : decode cX11_steps 26 = .ok (.invokevirtual 334, 3) := by decide +kernel
theorem dX11_steps_29 : decode cX11_steps 29 = .ok (.sipush 200, 3) := by decide +kernel
theorem dX11_steps_32 : decode cX11_steps 32 = .ok (.if_icmp .le 6, 3) := by decide +kernel
theorem dX11_steps_35 : decode cX11_steps 35 = .ok (.bipush (-4), 2) := by decide +kernel
theorem dX11_steps_37 : decode cX11_steps 37 = .ok (.ireturn, 1) := by decide +kernel
theorem dX11_steps_38 : decode cX11_steps 38 = .ok (.iload_n 1, 1) := by decide +kernel
theorem dX11_steps_39 : decode cX11_steps 39 = .ok (.iconst 1, 1) := by decide +kernel
theorem dX11_steps_40 : decode cX11_steps 40 = .ok (.iadd, 1) := by decide +kernel
theorem dX11_steps_41 : decode cX11_steps 41 = .ok (.istore 4, 2) := by decide +kernel
theorem dX11_steps_43 : decode cX11_steps 43 = .ok (.aload_n 0, 1) := by decide +kernel
theorem dX11_steps_44 : decode cX11_steps 44 = .ok (.iload_n 1, 1) := by decide +kernel
theorem dX11_steps_45 : decode cX11_steps 45 = .ok (.invokevirtual 309, 3) := by decide +kernel
theorem dX11_steps_48 : decode cX11_steps 48 = .ok (.istore 5, 2) := by decide +kernel
theorem dX11_steps_50 : decode cX11_steps 50 = .ok (.aload_n 0, 1) := by decide +kernel
theorem dX11_steps_51 : decode cX11_steps 51 = .ok (.iconst 0, 1) := by decide +kernel
theorem dX11_steps_52 : decode cX11_steps 52 = .ok (.putfield 303, 3) := by decide +kernel
theorem dX11_steps_55 : decode cX11_steps 55 = .ok (.aload_n 0, 1) := by decide +kernel
theorem dX11_steps_56 : decode cX11_steps 56 = .ok (.iconst 0, 1) := by decide +kernel
theorem dX11_steps_57 : decode cX11_steps 57 = .ok (.iload_n 1, 1) := by decide +kernel
theorem dX11_steps_58 : decode cX11_steps 58 = .ok (.iconst 0, 1) := by decide +kernel
theorem dX11_steps_59 : decode cX11_steps 59 = .ok (.iconst 0, 1) := by decide +kernel
theorem dX11_steps_60 : decode cX11_steps 60 = .ok (.invokevirtual 312, 3) := by decide +kernel
theorem dX11_steps_63 : decode cX11_steps 63 = .ok (.iload_n 2, 1) := by decide +kernel
theorem dX11_steps_64 : decode cX11_steps 64 = .ok (.tableswitch 266 1 6 #[40, 63, 86, 108, 134, 160], 40) := by decide +kernel
theorem dX11_steps_104 : decode cX11_steps 104 = .ok (.aload_n 0, 1) := by decide +kernel
theorem dX11_steps_105 : decode cX11_steps 105 = .ok (.iload 4, 2) := by decide +kernel
theorem dX11_steps_107 : decode cX11_steps 107 = .ok (.iconst 1, 1) := by decide +kernel
theorem dX11_steps_108 : decode cX11_steps 108 = .ok (.iadd, 1) := by decide +kernel
theorem dX11_steps_109 : decode cX11_steps 109 = .ok (.aload_n 0, 1) := by decide +kernel
theorem dX11_steps_110 : decode cX11_steps 110 = .ok (.getfield 90, 3) := by decide +kernel
theorem dX11_steps_113 : decode cX11_steps 113 = .ok (.iload_n 1, 1) := by decide +kernel
theorem dX11_steps_114 : decode cX11_steps 114 = .ok (.iaload, 1) := by decide +kernel
theorem dX11_steps_115 : decode cX11_steps 115 = .ok (.aload_n 0, 1) := by decide +kernel
theorem dX11_steps_116 : decode cX11_steps 116 = .ok (.iload_n 1, 1) := by decide +kernel
theorem dX11_steps_117 : decode cX11_steps 117 = .ok (.iconst 1, 1) := by decide +kernel
theorem dX11_steps_118 : decode cX11_steps 118 = .ok (.invokevirtual 319, 3) := by decide +kernel
theorem dX11_steps_121 : decode cX11_steps 121 = .ok (.invokevirtual 337, 3) := by decide +kernel
theorem dX11_steps_124 : decode cX11_steps 124 = .ok (.goto 237, 3) := by decide +kernel
theorem dX11_steps_127 : decode cX11_steps 127 = .ok (.aload_n 0, 1) := by decide +kernel
theorem dX11_steps_128 : decode cX11_steps 128 = .ok (.aload_n 0, 1) := by decide +kernel
theorem dX11_steps_129 : decode cX11_steps 129 = .ok (.iload 4, 2) := by decide +kernel
theorem dX11_steps_131 : decode cX11_steps 131 = .ok (.iconst 0, 1) := by decide +kernel
theorem dX11_steps_132 : decode cX11_steps 132 = .ok (.invokevirtual 319, 3) := by decide +kernel
theorem dX11_steps_135 : decode cX11_steps 135 = .ok (.aload_n 0, 1) := by decide +kernel
theorem dX11_steps_136 : decode cX11_steps 136 = .ok (.iload 4, 2) := by decide +kernel
theorem dX11_steps_138 : decode cX11_steps 138 = .ok (.iconst 1, 1) := by decide +kernel
theorem dX11_steps_139 : decode cX11_steps 139 = .ok (.invokevirtual 319, 3) := by decide +kernel
theorem dX11_steps_142 : decode cX11_steps 142 = .ok (.iconst 0, 1) := by decide +kernel
theorem dX11_steps_143 : decode cX11_steps 143 = .ok (.iconst 0, 1) := by decide +kernel
theorem dX11_steps_144 : decode cX11_steps 144 = .ok (.invokevirtual 312, 3) := by decide +kernel
theorem dX11_steps_147 : decode cX11_steps 147 = .ok (.goto 214, 3) := by decide +kernel
theorem dX11_steps_150 : decode cX11_steps 150 = .ok (.aload_n 0, 1) := by decide +kernel
theorem dX11_steps_151 : decode cX11_steps 151 = .ok (.aload_n 0, 1) := by decide +kernel
theorem dX11_steps_152 : decode cX11_steps 152 = .ok (.iload 4, 2) := by decide +kernel
theorem dX11_steps_154 : decode cX11_steps 154 = .ok (.iconst 1, 1) := by decide +kernel
theorem dX11_steps_155 : decode cX11_steps 155 = .ok (.invokevirtual 319, 3) := by decide +kernel
theorem dX11_steps_158 : decode cX11_steps 158 = .ok (.aload_n 0, 1) := by decide +kernel
theorem dX11_steps_159 : decode cX11_steps 159 = .ok (.iload 4, 2) := by decide +kernel
theorem dX11_steps_161 : decode cX11_steps 161 = .ok (.invokevirtual 309, 3) := by decide +kernel
theorem dX11_steps_164 : decode cX11_steps 164 = .ok (.iconst 0, 1) := by decide +kernel
theorem dX11_steps_165 : decode cX11_steps 165 = .ok (.iconst 0, 1) := by decide +kernel
theorem dX11_steps_166 : decode cX11_steps 166 = .ok (.invokevirtual 312, 3) := by decide +kernel
theorem dX11_steps_169 : decode cX11_steps 169 = .ok (.goto 192, 3) := by decide +kernel
theorem dX11_steps_172 : decode cX11_steps 172 = .ok (.aload_n 0, 1) := by decide +kernel
theorem dX11_steps_173 : decode cX11_steps 173 = .ok (.aload_n 0, 1) := by decide +kernel
theorem dX11_steps_174 : decode cX11_steps 174 = .ok (.iload_n 1, 1) := by decide +kernel
theorem dX11_steps_175 : decode cX11_steps 175 = .ok (.iconst 1, 1) := by decide +kernel
theorem dX11_steps_176 : decode cX11_steps 176 = .ok (.invokevirtual 319, 3) := by decide +kernel
theorem dX11_steps_179 : decode cX11_steps 179 = .ok (.aload_n 0, 1) := by decide +kernel
theorem dX11_steps_180 : decode cX11_steps 180 = .ok (.getfield 90, 3) := by decide +kernel
theorem dX11_steps_183 : decode cX11_steps 183 = .ok (.iload_n 1, 1) := by decide +kernel
theorem dX11_steps_184 : decode cX11_steps 184 = .ok (.iaload, 1) := by decide +kernel
theorem dX11_steps_185 : decode cX11_steps 185 = .ok (.aload_n 0, 1) := by decide +kernel
theorem dX11_steps_186 : decode cX11_steps 186 = .ok (.iload 4, 2) := by decide +kernel
theorem dX11_steps_188 : decode cX11_steps 188 = .ok (.iconst 0, 1) := by decide +kernel
theorem dX11_steps_189 : decode cX11_steps 189 = .ok (.invokevirtual 319, 3) := by decide +kernel
theorem dX11_steps_192 : decode cX11_steps 192 = .ok (.invokevirtual 337, 3) := by decide +kernel
theorem dX11_steps_195 : decode cX11_steps 195 = .ok (.goto 166, 3) := by decide +kernel
theorem dX11_steps_198 : decode cX11_steps 198 = .ok (.aload_n 0, 1) := by decide +kernel
theorem dX11_steps_199 : decode cX11_steps 199 = .ok (.aload_n 0, 1) := by decide +kernel
theorem dX11_steps_200 : decode cX11_steps 200 = .ok (.iload_n 1, 1) := by decide +kernel
theorem dX11_steps_201 : decode cX11_steps 201 = .ok (.iconst 2, 1) := by decide +kernel
theorem dX11_steps_202 : decode cX11_steps 202 = .ok (.invokevirtual 319, 3) := by decide +kernel
theorem dX11_steps_205 : decode cX11_steps 205 = .ok (.aload_n 0, 1) := by decide +kernel
theorem dX11_steps_206 : decode cX11_steps 206 = .ok (.getfield 90, 3) := by decide +kernel
theorem dX11_steps_209 : decode cX11_steps 209 = .ok (.iload_n 1, 1) := by decide +kernel
theorem dX11_steps_210 : decode cX11_steps 210 = .ok (.iaload, 1) := by decide +kernel
theorem dX11_steps_211 : decode cX11_steps 211 = .ok (.aload_n 0, 1) := by decide +kernel
theorem dX11_steps_212 : decode cX11_steps 212 = .ok (.iload 4, 2) := by decide +kernel
theorem dX11_steps_214 : decode cX11_steps 214 = .ok (.iconst 0, 1) := by decide +kernel
theorem dX11_steps_215 : decode cX11_steps 215 = .ok (.invokevirtual 319, 3) := by decide +kernel
theorem dX11_steps_218 : decode cX11_steps 218 = .ok (.invokevirtual 337, 3) := by decide +kernel
theorem dX11_steps_221 : decode cX11_steps 221 = .ok (.goto 140, 3) := by decide +kernel
theorem dX11_steps_224 : decode cX11_steps 224 = .ok (.aload_n 0, 1) := by decide +kernel
theorem dX11_steps_225 : decode cX11_steps 225 = .ok (.bipush 8, 2) := by decide +kernel
theorem dX11_steps_227 : decode cX11_steps 227 = .ok (.iconst (-1), 1) := by decide +kernel
theorem dX11_steps_228 : decode cX11_steps 228 = .ok (.invokevirtual 306, 3) := by decide +kernel
theorem dX11_steps_231 : decode cX11_steps 231 = .ok (.aload_n 0, 1) := by decide +kernel
theorem dX11_steps_232 : decode cX11_steps 232 = .ok (.aload_n 0, 1) := by decide +kernel
theorem dX11_steps_233 : decode cX11_steps 233 = .ok (.iload 4, 2) := by decide +kernel
theorem dX11_steps_235 : decode cX11_steps 235 = .ok (.iconst 0, 1) := by decide +kernel
theorem dX11_steps_236 : decode cX11_steps 236 = .ok (.invokevirtual 319, 3) := by decide +kernel
theorem dX11_steps_239 : decode cX11_steps 239 = .ok (.aload_n 0, 1) := by decide +kernel
theorem dX11_steps_240 : decode cX11_steps 240 = .ok (.iload 4, 2) := by decide +kernel
theorem dX11_steps_242 : decode cX11_steps 242 = .ok (.iconst 1, 1) := by decide +kernel
theorem dX11_steps_243 : decode cX11_steps 243 = .ok (.invokevirtual 319, 3) := by decide +kernel
theorem dX11_steps_246 : decode cX11_steps 246 = .ok (.iconst 0, 1) := by decide +kernel
theorem dX11_steps_247 : decode cX11_steps 247 = .ok (.iconst 0, 1) := by decide +kernel
theorem dX11_steps_248 : decode cX11_steps 248 = .ok (.invokevirtual 312, 3) := by decide +kernel
theorem dX11_steps_251 : decode cX11_steps 251 = .ok (.iconst 1, 1) := by decide +kernel
theorem dX11_steps_252 : decode cX11_steps 252 = .ok (.istore 6, 2) := by decide +kernel
theorem dX11_steps_254 : decode cX11_steps 254 = .ok (.iload 6, 2) := by decide +kernel
theorem dX11_steps_256 : decode cX11_steps 256 = .ok (.iconst 3, 1) := by decide +kernel
theorem dX11_steps_257 : decode cX11_steps 257 = .ok (.if_icmp .ge 70, 3) := by decide +kernel
theorem dX11_steps_260 : decode cX11_steps 260 = .ok (.aload_n 0, 1) := by decide +kernel
theorem dX11_steps_261 : decode cX11_steps 261 = .ok (.aload_n 0, 1) := by decide +kernel
theorem dX11_steps_262 : decode cX11_steps 262 = .ok (.getfield 59, 3) := by decide +kernel
theorem dX11_steps_265 : decode cX11_steps 265 = .ok (.iload_n 1, 1) := by decide +kernel
theorem dX11_steps_266 : decode cX11_steps 266 = .ok (.iaload, 1) := by decide +kernel
theorem dX11_steps_267 : decode cX11_steps 267 = .ok (.aload_n 0, 1) := by decide +kernel
theorem dX11_steps_268 : decode cX11_steps 268 = .ok (.getfield 62, 3) := by decide +kernel
theorem dX11_steps_271 : decode cX11_steps 271 = .ok (.iload_n 1, 1) := by decide +kernel
theorem dX11_steps_272 : decode cX11_steps 272 = .ok (.iaload, 1) := by decide +kernel
theorem dX11_steps_273 : decode cX11_steps 273 = .ok (.invokevirtual 306, 3) := by decide +kernel
theorem dX11_steps_276 : decode cX11_steps 276 = .ok (.aload_n 0, 1) := by decide +kernel
theorem dX11_steps_277 : decode cX11_steps 277 = .ok (.aload_n 0, 1) := by decide +kernel
theorem dX11_steps_278 : decode cX11_steps 278 = .ok (.iload 4, 2) := by decide +kernel
theorem dX11_steps_280 : decode cX11_steps 280 = .ok (.iload 6, 2) := by decide +kernel
theorem dX11_steps_282 : decode cX11_steps 282 = .ok (.invokevirtual 319, 3) := by decide +kernel
theorem dX11_steps_285 : decode cX11_steps 285 = .ok (.aload_n 0, 1) := by decide +kernel
theorem dX11_steps_286 : decode cX11_steps 286 = .ok (.aload_n 0, 1) := by decide +kernel
theorem dX11_steps_287 : decode cX11_steps 287 = .ok (.iload 4, 2) := by decide +kernel
theorem dX11_steps_289 : decode cX11_steps 289 = .ok (.iload 6, 2) := by decide +kernel
theorem dX11_steps_291 : decode cX11_steps 291 = .ok (.invokevirtual 319, 3) := by decide +kernel
theorem dX11_steps_294 : decode cX11_steps 294 = .ok (.invokevirtual 309, 3) := by decide +kernel
theorem dX11_steps_297 : decode cX11_steps 297 = .ok (.iconst 0, 1) := by decide +kernel
theorem dX11_steps_298 : decode cX11_steps 298 = .ok (.iconst 0, 1) := by decide +kernel
theorem dX11_steps_299 : decode cX11_steps 299 = .ok (.invokevirtual 312, 3) := by decide +kernel
theorem dX11_steps_302 : decode cX11_steps 302 = .ok (.aload_n 0, 1) := by decide +kernel
theorem dX11_steps_303 : decode cX11_steps 303 = .ok (.aload_n 0, 1) := by decide +kernel
theorem dX11_steps_304 : decode cX11_steps 304 = .ok (.iload 4, 2) := by decide +kernel
theorem dX11_steps_306 : decode cX11_steps 306 = .ok (.invokevirtual 309, 3) := by decide +kernel
theorem dX11_steps_309 : decode cX11_steps 309 = .ok (.iload 5, 2) := by decide +kernel
theorem dX11_steps_311 : decode cX11_steps 311 = .ok (.aload_n 0, 1) := by decide +kernel
theorem dX11_steps_312 : decode cX11_steps 312 = .ok (.getfield 90, 3) := by decide +kernel
theorem dX11_steps_315 : decode cX11_steps 315 = .ok (.iload_n 1, 1) := by decide +kernel
theorem dX11_steps_316 : decode cX11_steps 316 = .ok (.iaload, 1) := by decide +kernel
theorem dX11_steps_317 : decode cX11_steps 317 = .ok (.iconst 1, 1) := by decide +kernel
theorem dX11_steps_318 : decode cX11_steps 318 = .ok (.invokevirtual 312, 3) := by decide +kernel
theorem dX11_steps_321 : decode cX11_steps 321 = .ok (.iinc 6 1, 3) := by decide +kernel
theorem dX11_steps_324 : decode cX11_steps 324 = .ok (.goto (-70), 3) := by decide +kernel
theorem dX11_steps_327 : decode cX11_steps 327 = .ok (.goto 34, 3) := by decide +kernel
theorem dX11_steps_330 : decode cX11_steps 330 = .ok (.aload_n 0, 1) := by decide +kernel
theorem dX11_steps_331 : decode cX11_steps 331 = .ok (.bipush 9, 2) := by decide +kernel
theorem dX11_steps_333 : decode cX11_steps 333 = .ok (.aload_n 0, 1) := by decide +kernel
theorem dX11_steps_334 : decode cX11_steps 334 = .ok (.getfield 87, 3) := by decide +kernel
theorem dX11_steps_337 : decode cX11_steps 337 = .ok (.iload_n 1, 1) := by decide +kernel
theorem dX11_steps_338 : decode cX11_steps 338 = .ok (.iaload, 1) := by decide +kernel
theorem dX11_steps_339 : decode cX11_steps 339 = .ok (.invokevirtual 306, 3) := by decide +kernel
theorem dX11_steps_342 : decode cX11_steps 342 = .ok (.aload_n 0, 1) := by decide +kernel
theorem dX11_steps_343 : decode cX11_steps 343 = .ok (.aload_n 0, 1) := by decide +kernel
theorem dX11_steps_344 : decode cX11_steps 344 = .ok (.iload 4, 2) := by decide +kernel
theorem dX11_steps_346 : decode cX11_steps 346 = .ok (.iconst 0, 1) := by decide +kernel
theorem dX11_steps_347 : decode cX11_steps 347 = .ok (.invokevirtual 319, 3) := by decide +kernel
theorem dX11_steps_350 : decode cX11_steps 350 = .ok (.aload_n 0, 1) := by decide +kernel
theorem dX11_steps_351 : decode cX11_steps 351 = .ok (.iload 4, 2) := by decide +kernel
theorem dX11_steps_353 : decode cX11_steps 353 = .ok (.invokevirtual 309, 3) := by decide +kernel
theorem dX11_steps_356 : decode cX11_steps 356 = .ok (.iconst 0, 1) := by decide +kernel
theorem dX11_steps_357 : decode cX11_steps 357 = .ok (.iconst 0, 1) := by decide +kernel
theorem dX11_steps_358 : decode cX11_steps 358 = .ok (.invokevirtual 312, 3) := by decide +kernel
theorem dX11_steps_361 : decode cX11_steps 361 = .ok (.aload_n 0, 1) := by decide +kernel
theorem dX11_steps_362 : decode cX11_steps 362 = .ok (.iload 5, 2) := by decide +kernel
theorem dX11_steps_364 : decode cX11_steps 364 = .ok (.aload_n 0, 1) := by decide +kernel
theorem dX11_steps_365 : decode cX11_steps 365 = .ok (.getfield 151, 3) := by decide +kernel
theorem dX11_steps_368 : decode cX11_steps 368 = .ok (.iconst 0, 1) := by decide +kernel
theorem dX11_steps_369 : decode cX11_steps 369 = .ok (.iconst 0, 1) := by decide +kernel
theorem dX11_steps_370 : decode cX11_steps 370 = .ok (.invokevirtual 312, 3) := by decide +kernel
theorem dX11_steps_373 : decode cX11_steps 373 = .ok (.aload_n 0, 1) := by decide +kernel
theorem dX11_steps_374 : decode cX11_steps 374 = .ok (.invokevirtual 340, 3) := by decide +kernel
theorem dX11_steps_377 : decode cX11_steps 377 = .ok (.aload_n 0, 1) := by decide +kernel
theorem dX11_steps_378 : decode cX11_steps 378 = .ok (.invokevirtual 198, 3) := by decide +kernel
theorem dX11_steps_381 : decode cX11_steps 381 = .ok (.iload_n 2, 1) := by decide +kernel
theorem dX11_steps_382 : decode cX11_steps 382 = .ok (.ireturn, 1) := by decide +kernel
theorem dX11_step_0 : decode cX11_step 0 = .ok (.aload_n 0, 1) := by decide +kernel
theorem dX11_step_1 : decode cX11_step 1 = .ok (.iconst 0, 1) := by decide +kernel
theorem dX11_step_2 : decode cX11_step 2 = .ok (.putfield 1, 3) := by decide +kernel
theorem dX11_step_5 : decode cX11_step 5 = .ok (.iload_n 1, 1) := by decide +kernel
theorem dX11_step_6 : decode cX11_step 6 = .ok (.invokestatic 271, 3) := by decide +kernel
theorem dX11_step_9 : decode cX11_step 9 = .ok (.ifCond .ne 6, 3) := by decide +kernel
theorem dX11_step_12 : decode cX11_step 12 = .ok (.bipush (-2), 2) := by decide +kernel
theorem dX11_step_14 : decode cX11_step 14 = .ok (.ireturn, 1) := by decide +kernel
theorem dX11_step_15 : decode cX11_step 15 = .ok (.aload_n 0, 1) := by decide +kernel
theorem dX11_step_16 : decode cX11_step 16 = .ok (.iload_n 1, 1) := by decide +kernel
theorem dX11_step_17 : decode cX11_step 17 = .ok (.invokevirtual 343, 3) := by decide +kernel
theorem dX11_step_20 : decode cX11_step 20 = .ok (.ifCond .eq 6, 3) := by decide +kernel
theorem dX11_step_23 : decode cX11_step 23 = .ok (.bipush (-5), 2) := by decide +kernel
theorem dX11_step_25 : decode cX11_step 25 = .ok (.ireturn, 1) := by decide +kernel
theorem dX11_step_26 : decode cX11_step 26 = .ok (.aload_n 0, 1) := by decide +kernel
theorem dX11_step_27 : decode cX11_step 27 = .ok (.iload_n 1, 1) := by decide +kernel
theorem dX11_step_28 : decode cX11_step 28 = .ok (.invokevirtual 346, 3) := by decide +kernel
theorem dX11_step_31 : decode cX11_step 31 = .ok (.aload_n 0, 1) := by decide +kernel
theorem dX11_step_32 : decode cX11_step 32 = .ok (.invokevirtual 349, 3) := by decide +kernel
theorem dX11_step_35 : decode cX11_step 35 = .ok (.istore_n 2, 1) := by decide +kernel
theorem dX11_step_36 : decode cX11_step 36 = .ok (.iload_n 2, 1) := by decide +kernel
theorem dX11_step_37 : decode cX11_step 37 = .ok (.ifCond .le 8, 3) := by decide +kernel
theorem dX11_step_40 : decode cX11_step 40 = .ok (.aload_n 0, 1) := by decide +kernel
theorem dX11_step_41 : decode cX11_step 41 = .ok (.iload_n 1, 1) := by decide +kernel
theorem dX11_step_42 : decode cX11_step 42 = .ok (.invokevirtual 278, 3) := by decide +kernel
theorem dX11_step_45 : decode cX11_step 45 = .ok (.iload_n 2, 1) := by decide +kernel
theorem dX11_step_46 : decode cX11_step 46 = .ok (.ireturn, 1) := by decide +kernel
theorem dX11_normalize_0 : decode cX11_normalize 0 = .ok (.aload_n 0, 1) := by decide +kernel
theorem dX11_normalize_1 : decode cX11_normalize 1 = .ok (.iconst 0, 1) := by decide +kernel
theorem dX11_normalize_2 : decode cX11_normalize 2 = .ok (.putfield 352, 3) := by decide +kernel
theorem dX11_normalize_5 : decode cX11_normalize 5 = .ok (.aload_n 0, 1) := by decide +kernel
theorem dX11_normalize_6 : decode cX11_normalize 6 = .ok (.invokevirtual 328, 3) := by decide +kernel
theorem dX11_normalize_9 : decode cX11_normalize 9 = .ok (.iconst (-1), 1) := by decide +kernel
theorem dX11_normalize_10 : decode cX11_normalize 10 = .ok (.if_icmp .eq 49, 3) := by decide +kernel
theorem dX11_normalize_13 : decode cX11_normalize 13 = .ok (.aload_n 0, 1) := by decide +kernel
theorem dX11_normalize_14 : decode cX11_normalize 14 = .ok (.getfield 352, 3) := by decide +kernel
theorem dX11_normalize_17 : decode cX11_normalize 17 = .ok (.bipush 60, 2) := by decide +kernel
theorem dX11_normalize_19 : decode cX11_normalize 19 = .ok (.if_icmp .ne 6, 3) := by decide +kernel
theorem dX11_normalize_22 : decode cX11_normalize 22 = .ok (.bipush (-4), 2) := by decide +kernel
theorem dX11_normalize_24 : decode cX11_normalize 24 = .ok (.ireturn, 1) := by decide +kernel
theorem dX11_normalize_25 : decode cX11_normalize 25 = .ok (.aload_n 0, 1) := by decide +kernel
theorem dX11_normalize_26 : decode cX11_normalize 26 = .ok (.invokevirtual 349, 3) := by decide +kernel
theorem dX11_normalize_29 : decode cX11_normalize 29 = .ok (.istore_n 1, 1) := by decide +kernel
theorem dX11_normalize_30 : decode cX11_normalize 30 = .ok (.iload_n 1, 1) := by decide +kernel
theorem dX11_normalize_31 : decode cX11_normalize 31 = .ok (.ifCond .ge 5, 3) := by decide +kernel
theorem dX11_normalize_34 : decode cX11_normalize 34 = .ok (.iload_n 1, 1) := by decide +kernel
theorem dX11_normalize_35 : decode cX11_normalize 35 = .ok (.ireturn, 1) := by decide +kernel
theorem dX11_normalize_36 : decode cX11_normalize 36 = .ok (.aload_n 0, 1) := by decide +kernel
theorem dX11_normalize_37 : decode cX11_normalize 37 = .ok (.getfield 96, 3) := by decide +kernel
theorem dX11_normalize_40 : decode cX11_normalize 40 = .ok (.aload_n 0, 1) := by decide +kernel
theorem dX11_normalize_41 : decode cX11_normalize 41 = .ok (.getfield 352, 3) := by decide +kernel
theorem dX11_normalize_44 : decode cX11_normalize 44 = .ok (.iload_n 1, 1) := by decide +kernel
theorem dX11_normalize_45 : decode cX11_normalize 45 = .ok (.iastore, 1) := by decide +kernel
theorem dX11_normalize_46 : decode cX11_normalize 46 = .ok (.aload_n 0, 1) := by decide +kernel
theorem dX11_normalize_47 : decode cX11_normalize 47 = .ok (.dup, 1) := by decide +kernel
theorem dX11_normalize_48 : decode cX11_normalize 48 = .ok (.getfield 352, 3) := by decide +kernel
theorem dX11_normalize_51 : decode cX11_normalize 51 = .ok (.iconst 1, 1) := by decide +kernel
theorem dX11_normalize_52 : decode cX11_normalize 52 = .ok (.iadd, 1) := by decide +kernel
theorem dX11_normalize_53 : decode cX11_normalize 53 = .ok (.putfield 352, 3) := by decide +kernel
theorem dX11_normalize_56 : decode cX11_normalize 56 = .ok (.goto (-51), 3) := by decide +kernel
theorem dX11_normalize_59 : decode cX11_normalize 59 = .ok (.aload_n 0, 1) := by decide +kernel
theorem dX11_normalize_60 : decode cX11_normalize 60 = .ok (.getfield 352, 3) := by decide +kernel
theorem dX11_normalize_63 : decode cX11_normalize 63 = .ok (.ireturn, 1) := by decide +kernel
theorem dX11_normal_0 : decode cX11_normal 0 = .ok (.aload_n 0, 1) := by decide +kernel
theorem dX11_normal_1 : decode cX11_normal 1 = .ok (.iconst 0, 1) := by decide +kernel
theorem dX11_normal_2 : decode cX11_normal 2 = .ok (.putfield 1, 3) := by decide +kernel
theorem dX11_normal_5 : decode cX11_normal 5 = .ok (.iload_n 1, 1) := by decide +kernel
theorem dX11_normal_6 : decode cX11_normal 6 = .ok (.invokestatic 271, 3) := by decide +kernel
theorem dX11_normal_9 : decode cX11_normal 9 = .ok (.ifCond .ne 6, 3) := by decide +kernel
theorem dX11_normal_12 : decode cX11_normal 12 = .ok (.bipush (-2), 2) := by decide +kernel
theorem dX11_normal_14 : decode cX11_normal 14 = .ok (.ireturn, 1) := by decide +kernel
theorem dX11_normal_15 : decode cX11_normal 15 = .ok (.aload_n 0, 1) := by decide +kernel
theorem dX11_normal_16 : decode cX11_normal 16 = .ok (.iload_n 1, 1) := by decide +kernel
theorem dX11_normal_17 : decode cX11_normal 17 = .ok (.invokevirtual 343, 3) := by decide +kernel
theorem dX11_normal_20 : decode cX11_normal 20 = .ok (.ifCond .eq 6, 3) := by decide +kernel
theorem dX11_normal_23 : decode cX11_normal 23 = .ok (.bipush (-5), 2) := by decide +kernel
theorem dX11_normal_25 : decode cX11_normal 25 = .ok (.ireturn, 1) := by decide +kernel
theorem dX11_normal_26 : decode cX11_normal 26 = .ok (.aload_n 0, 1) := by decide +kernel
theorem dX11_normal_27 : decode cX11_normal 27 = .ok (.iload_n 1, 1) := by decide +kernel
theorem dX11_normal_28 : decode cX11_normal 28 = .ok (.invokevirtual 346, 3) := by decide +kernel
theorem dX11_normal_31 : decode cX11_normal 31 = .ok (.aload_n 0, 1) := by decide +kernel
theorem dX11_normal_32 : decode cX11_normal 32 = .ok (.invokevirtual 355, 3) := by decide +kernel
theorem dX11_normal_35 : decode cX11_normal 35 = .ok (.istore_n 2, 1) := by decide +kernel
theorem dX11_normal_36 : decode cX11_normal 36 = .ok (.iload_n 2, 1) := by decide +kernel
theorem dX11_normal_37 : decode cX11_normal 37 = .ok (.ifCond .ge 5, 3) := by decide +kernel
theorem dX11_normal_40 : decode cX11_normal 40 = .ok (.iload_n 2, 1) := by decide +kernel
theorem dX11_normal_41 : decode cX11_normal 41 = .ok (.ireturn, 1) := by decide +kernel
theorem dX11_normal_42 : decode cX11_normal 42 = .ok (.aload_n 0, 1) := by decide +kernel
theorem dX11_normal_43 : decode cX11_normal 43 = .ok (.iload_n 1, 1) := by decide +kernel
theorem dX11_normal_44 : decode cX11_normal 44 = .ok (.invokevirtual 278, 3) := by decide +kernel
theorem dX11_normal_47 : decode cX11_normal 47 = .ok (.aload_n 0, 1) := by decide +kernel
theorem dX11_normal_48 : decode cX11_normal 48 = .ok (.iload_n 2, 1) := by decide +kernel
theorem dX11_normal_49 : decode cX11_normal 49 = .ok (.putfield 358, 3) := by decide +kernel
theorem dX11_normal_52 : decode cX11_normal 52 = .ok (.iconst 0, 1) := by decide +kernel
theorem dX11_normal_53 : decode cX11_normal 53 = .ok (.istore_n 3, 1) := by decide +kernel
theorem dX11_normal_54 : decode cX11_normal 54 = .ok (.iload_n 3, 1) := by decide +kernel
theorem dX11_normal_55 : decode cX11_normal 55 = .ok (.iload_n 2, 1) := by decide +kernel
theorem dX11_normal_56 : decode cX11_normal 56 = .ok (.if_icmp .ge 21, 3) := by decide +kernel
theorem dX11_normal_59 : decode cX11_normal 59 = .ok (.aload_n 0, 1) := by decide +kernel
theorem dX11_normal_60 : decode cX11_normal 60 = .ok (.getfield 99, 3) := by decide +kernel
theorem dX11_normal_63 : decode cX11_normal 63 = .ok (.iload_n 3, 1) := by decide +kernel
theorem dX11_normal_64 : decode cX11_normal 64 = .ok (.aload_n 0, 1) := by decide +kernel
theorem dX11_normal_65 : decode cX11_normal 65 = .ok (.getfield 96, 3) := by decide +kernel
theorem dX11_normal_68 : decode cX11_normal 68 = .ok (.iload_n 3, 1) := by decide +kernel
theorem dX11_normal_69 : decode cX11_normal 69 = .ok (.iaload, 1) := by decide +kernel
theorem dX11_normal_70 : decode cX11_normal 70 = .ok (.iastore, 1) := by decide +kernel
theorem dX11_normal_71 : decode cX11_normal 71 = .ok (.iinc 3 1, 3) := by decide +kernel
theorem dX11_normal_74 : decode cX11_normal 74 = .ok (.goto (-20), 3) := by decide +kernel
theorem dX11_normal_77 : decode cX11_normal 77 = .ok (.iload_n 2, 1) := by decide +kernel
theorem dX11_normal_78 : decode cX11_normal 78 = .ok (.ireturn, 1) := by decide +kernel
theorem dX11_trace_0 : decode cX11_trace 0 = .ok (.aload_n 0, 1) := by decide +kernel
theorem dX11_trace_1 : decode cX11_trace 1 = .ok (.iconst 0, 1) := by decide +kernel
theorem dX11_trace_2 : decode cX11_trace 2 = .ok (.putfield 1, 3) := by decide +kernel
theorem dX11_trace_5 : decode cX11_trace 5 = .ok (.iload_n 1, 1) := by decide +kernel
theorem dX11_trace_6 : decode cX11_trace 6 = .ok (.i2l, 1) := by decide +kernel
theorem dX11_trace_7 : decode cX11_trace 7 = .ok (.lconst 0, 1) := by decide +kernel
theorem dX11_trace_8 : decode cX11_trace 8 = .ok (.aload_n 0, 1) := by decide +kernel
theorem dX11_trace_9 : decode cX11_trace 9 = .ok (.getfield 358, 3) := by decide +kernel
theorem dX11_trace_12 : decode cX11_trace 12 = .ok (.iconst 1, 1) := by decide +kernel
theorem dX11_trace_13 : decode cX11_trace 13 = .ok (.isub, 1) := by decide +kernel
theorem dX11_trace_14 : decode cX11_trace 14 = .ok (.i2l, 1) := by decide +kernel
theorem dX11_trace_15 : decode cX11_trace 15 = .ok (.invokestatic 180, 3) := by decide +kernel
theorem dX11_trace_18 : decode cX11_trace 18 = .ok (.ifCond .eq 12, 3) := by decide +kernel
theorem dX11_trace_21 : decode cX11_trace 21 = .ok (.aload_n 0, 1) := by decide +kernel
theorem dX11_trace_22 : decode cX11_trace 22 = .ok (.getfield 99, 3) := by decide +kernel
theorem dX11_trace_25 : decode cX11_trace 25 = .ok (.iload_n 1, 1) := by decide +kernel
theorem dX11_trace_26 : decode cX11_trace 26 = .ok (.iaload, 1) := by decide +kernel
theorem dX11_trace_27 : decode cX11_trace 27 = .ok (.goto 5, 3) := by decide +kernel
theorem dX11_trace_30 : decode cX11_trace 30 = .ok (.bipush (-2), 2) := by decide +kernel
theorem dX11_trace_32 : decode cX11_trace 32 = .ok (.ireturn, 1) := by decide +kernel
theorem dX11_cut_0 : decode cX11_cut 0 = .ok (.aload_n 0, 1) := by decide +kernel
theorem dX11_cut_1 : decode cX11_cut 1 = .ok (.iconst 0, 1) := by decide +kernel
theorem dX11_cut_2 : decode cX11_cut 2 = .ok (.putfield 1, 3) := by decide +kernel
theorem dX11_cut_5 : decode cX11_cut 5 = .ok (.iload_n 1, 1) := by decide +kernel
theorem dX11_cut_6 : decode cX11_cut 6 = .ok (.invokestatic 271, 3) := by decide +kernel
theorem dX11_cut_9 : decode cX11_cut 9 = .ok (.ifCond .eq 34, 3) := by decide +kernel
theorem dX11_cut_12 : decode cX11_cut 12 = .ok (.iload_n 2, 1) := by decide +kernel
theorem dX11_cut_13 : decode cX11_cut 13 = .ok (.i2l, 1) := by decide +kernel
theorem dX11_cut_14 : decode cX11_cut 14 = .ok (.lconst 0, 1) := by decide +kernel
theorem dX11_cut_15 : decode cX11_cut 15 = .ok (.aload_n 0, 1) := by decide +kernel
theorem dX11_cut_16 : decode cX11_cut 16 = .ok (.getfield 144, 3) := by decide +kernel
theorem dX11_cut_19 : decode cX11_cut 19 = .ok (.iconst 1, 1) := by decide +kernel
theorem dX11_cut_20 : decode cX11_cut 20 = .ok (.isub, 1) := by decide +kernel
theorem dX11_cut_21 : decode cX11_cut 21 = .ok (.i2l, 1) := by decide +kernel
theorem dX11_cut_22 : decode cX11_cut 22 = .ok (.invokestatic 180, 3) := by decide +kernel
theorem dX11_cut_25 : decode cX11_cut 25 = .ok (.ifCond .eq 18, 3) := by decide +kernel
theorem dX11_cut_28 : decode cX11_cut 28 = .ok (.iload_n 3, 1) := by decide +kernel
theorem dX11_cut_29 : decode cX11_cut 29 = .ok (.invokestatic 271, 3) := by decide +kernel
theorem dX11_cut_32 : decode cX11_cut 32 = .ok (.ifCond .eq 11, 3) := by decide +kernel
theorem dX11_cut_35 : decode cX11_cut 35 = .ok (.iload 4, 2) := by decide +kernel
theorem dX11_cut_37 : decode cX11_cut 37 = .ok (.invokestatic 271, 3) := by decide +kernel
theorem dX11_cut_40 : decode cX11_cut 40 = .ok (.ifCond .ne 6, 3) := by decide +kernel
theorem dX11_cut_43 : decode cX11_cut 43 = .ok (.bipush (-2), 2) := by decide +kernel
theorem dX11_cut_45 : decode cX11_cut 45 = .ok (.ireturn, 1) := by decide +kernel
theorem dX11_cut_46 : decode cX11_cut 46 = .ok (.aload_n 0, 1) := by decide +kernel
theorem dX11_cut_47 : decode cX11_cut 47 = .ok (.iload_n 1, 1) := by decide +kernel
theorem dX11_cut_48 : decode cX11_cut 48 = .ok (.invokevirtual 343, 3) := by decide +kernel
theorem dX11_cut_51 : decode cX11_cut 51 = .ok (.ifCond .ne 11, 3) := by decide +kernel
theorem dX11_cut_54 : decode cX11_cut 54 = .ok (.aload_n 0, 1) := by decide +kernel
theorem dX11_cut_55 : decode cX11_cut 55 = .ok (.iload_n 3, 1) := by decide +kernel
theorem dX11_cut_56 : decode cX11_cut 56 = .ok (.invokevirtual 343, 3) := by decide +kernel
theorem dX11_cut_59 : decode cX11_cut 59 = .ok (.ifCond .eq 6, 3) := by decide +kernel
theorem dX11_cut_62 : decode cX11_cut 62 = .ok (.bipush (-5), 2) := by decide +kernel
theorem dX11_cut_64 : decode cX11_cut 64 = .ok (.ireturn, 1) := by decide +kernel
theorem dX11_cut_65 : decode cX11_cut 65 = .ok (.aload_n 0, 1) := by decide +kernel
theorem dX11_cut_66 : decode cX11_cut 66 = .ok (.iload_n 3, 1) := by decide +kernel
theorem dX11_cut_67 : decode cX11_cut 67 = .ok (.invokevirtual 346, 3) := by decide +kernel
theorem dX11_cut_70 : decode cX11_cut 70 = .ok (.aload_n 0, 1) := by decide +kernel
theorem dX11_cut_71 : decode cX11_cut 71 = .ok (.invokevirtual 331, 3) := by decide +kernel
theorem dX11_cut_74 : decode cX11_cut 74 = .ok (.aload_n 0, 1) := by decide +kernel
theorem dX11_cut_75 : decode cX11_cut 75 = .ok (.getfield 38, 3) := by decide +kernel
theorem dX11_cut_78 : decode cX11_cut 78 = .ok (.iload_n 2, 1) := by decide +kernel
theorem dX11_cut_79 : decode cX11_cut 79 = .ok (.iaload, 1) := by decide +kernel
theorem dX11_cut_80 : decode cX11_cut 80 = .ok (.if_icmp .eq 6, 3) := by decide +kernel
theorem dX11_cut_83 : decode cX11_cut 83 = .ok (.bipush (-5), 2) := by decide +kernel
theorem dX11_cut_85 : decode cX11_cut 85 = .ok (.ireturn, 1) := by decide +kernel
theorem dX11_cut_86 : decode cX11_cut 86 = .ok (.aload_n 0, 1) := by decide +kernel
theorem dX11_cut_87 : decode cX11_cut 87 = .ok (.iload_n 1, 1) := by decide +kernel
theorem dX11_cut_88 : decode cX11_cut 88 = .ok (.invokevirtual 346, 3) := by decide +kernel
theorem dX11_cut_91 : decode cX11_cut 91 = .ok (.aload_n 0, 1) := by decide +kernel
theorem dX11_cut_92 : decode cX11_cut 92 = .ok (.invokevirtual 331, 3) := by decide +kernel
theorem dX11_cut_95 : decode cX11_cut 95 = .ok (.istore 5, 2) := by decide +kernel
theorem dX11_cut_97 : decode cX11_cut 97 = .ok (.aload_n 0, 1) := by decide +kernel
theorem dX11_cut_98 : decode cX11_cut 98 = .ok (.getfield 151, 3) := by decide +kernel
theorem dX11_cut_101 : decode cX11_cut 101 = .ok (.istore 6, 2) := by decide +kernel
theorem dX11_cut_103 : decode cX11_cut 103 = .ok (.iconst 0, 1) := by decide +kernel
theorem dX11_cut_104 : decode cX11_cut 104 = .ok (.istore 7, 2) := by decide +kernel
theorem dX11_cut_106 : decode cX11_cut 106 = .ok (.iload 7, 2) := by decide +kernel
theorem dX11_cut_108 : decode cX11_cut 108 = .ok (.aload_n 0, 1) := by decide +kernel
theorem dX11_cut_109 : decode cX11_cut 109 = .ok (.getfield 151, 3) := by decide +kernel
theorem dX11_cut_112 : decode cX11_cut 112 = .ok (.if_icmp .ge 49, 3) := by decide +kernel
theorem dX11_cut_115 : decode cX11_cut 115 = .ok (.iload 6, 2) := by decide +kernel
theorem dX11_cut_117 : decode cX11_cut 117 = .ok (.aload_n 0, 1) := by decide +kernel
theorem dX11_cut_118 : decode cX11_cut 118 = .ok (.getfield 59, 3) := by decide +kernel
theorem dX11_cut_121 : decode cX11_cut 121 = .ok (.iload 7, 2) := by decide +kernel
theorem dX11_cut_123 : decode cX11_cut 123 = .ok (.iaload, 1) := by decide +kernel
theorem dX11_cut_124 : decode cX11_cut 124 = .ok (.ifCond .ne 27, 3) := by decide +kernel
theorem dX11_cut_127 : decode cX11_cut 127 = .ok (.aload_n 0, 1) := by decide +kernel
theorem dX11_cut_128 : decode cX11_cut 128 = .ok (.getfield 62, 3) := by decide +kernel
theorem dX11_cut_131 : decode cX11_cut 131 = .ok (.iload 7, 2) := by decide +kernel
theorem dX11_cut_133 : decode cX11_cut 133 = .ok (.iaload, 1) := by decide +kernel
theorem dX11_cut_134 : decode cX11_cut 134 = .ok (.iconst (-1), 1) := by decide +kernel
theorem dX11_cut_135 : decode cX11_cut 135 = .ok (.iload_n 2, 1) := by decide +kernel
theorem dX11_cut_136 : decode cX11_cut 136 = .ok (.isub, 1) := by decide +kernel
theorem dX11_cut_137 : decode cX11_cut 137 = .ok (.if_icmp .ne 14, 3) := by decide +kernel
theorem dX11_cut_140 : decode cX11_cut 140 = .ok (.aload_n 0, 1) := by decide +kernel
theorem dX11_cut_141 : decode cX11_cut 141 = .ok (.getfield 56, 3) := by decide +kernel
theorem dX11_cut_144 : decode cX11_cut 144 = .ok (.iload_n 3, 1) := by decide +kernel
theorem dX11_cut_145 : decode cX11_cut 145 = .ok (.iaload, 1) := by decide +kernel
theorem dX11_cut_146 : decode cX11_cut 146 = .ok (.iconst 1, 1) := by decide +kernel
theorem dX11_cut_147 : decode cX11_cut 147 = .ok (.isub, 1) := by decide +kernel
theorem dX11_cut_148 : decode cX11_cut 148 = .ok (.goto 4, 3) := by decide +kernel
theorem dX11_cut_151 : decode cX11_cut 151 = .ok (.iconst 0, 1) := by decide +kernel
theorem dX11_cut_152 : decode cX11_cut 152 = .ok (.iadd, 1) := by decide +kernel
theorem dX11_cut_153 : decode cX11_cut 153 = .ok (.istore 6, 2) := by decide +kernel
theorem dX11_cut_155 : decode cX11_cut 155 = .ok (.iinc 7 1, 3) := by decide +kernel
theorem dX11_cut_158 : decode cX11_cut 158 = .ok (.goto (-52), 3) := by decide +kernel
theorem dX11_cut_161 : decode cX11_cut 161 = .ok (.iload 6, 2) := by decide +kernel
theorem dX11_cut_163 : decode cX11_cut 163 = .ok (.sipush 200, 3) := by decide +kernel
theorem dX11_cut_166 : decode cX11_cut 166 = .ok (.if_icmp .le 6, 3) := by decide +kernel
theorem dX11_cut_169 : decode cX11_cut 169 = .ok (.bipush (-4), 2) := by decide +kernel
theorem dX11_cut_171 : decode cX11_cut 171 = .ok (.ireturn, 1) := by decide +kernel
theorem dX11_cut_172 : decode cX11_cut 172 = .ok (.aload_n 0, 1) := by decide +kernel
theorem dX11_cut_173 : decode cX11_cut 173 = .ok (.iconst 0, 1) := by decide +kernel
theorem dX11_cut_174 : decode cX11_cut 174 = .ok (.putfield 303, 3) := by decide +kernel
theorem dX11_cut_177 : decode cX11_cut 177 = .ok (.iconst 0, 1) := by decide +kernel
theorem dX11_cut_178 : decode cX11_cut 178 = .ok (.istore 7, 2) := by decide +kernel
theorem dX11_cut_180 : decode cX11_cut 180 = .ok (.iload 7, 2) := by decide +kernel
theorem dX11_cut_182 : decode cX11_cut 182 = .ok (.aload_n 0, 1) := by decide +kernel
theorem dX11_cut_183 : decode cX11_cut 183 = .ok (.getfield 151, 3) := by decide +kernel
theorem dX11_cut_186 : decode cX11_cut 186 = .ok (.if_icmp .ge 153, 3) := by decide +kernel
theorem dX11_cut_189 : decode cX11_cut 189 = .ok (.aload_n 0, 1) := by decide +kernel
theorem dX11_cut_190 : decode cX11_cut 190 = .ok (.getfield 59, 3) := by decide +kernel
theorem dX11_cut_193 : decode cX11_cut 193 = .ok (.iload 7, 2) := by decide +kernel
theorem dX11_cut_195 : decode cX11_cut 195 = .ok (.iaload, 1) := by decide +kernel
theorem dX11_cut_196 : decode cX11_cut 196 = .ok (.ifCond .ne 16, 3) := by decide +kernel
theorem dX11_cut_199 : decode cX11_cut 199 = .ok (.aload_n 0, 1) := by decide +kernel
theorem dX11_cut_200 : decode cX11_cut 200 = .ok (.getfield 62, 3) := by decide +kernel
theorem dX11_cut_203 : decode cX11_cut 203 = .ok (.iload 7, 2) := by decide +kernel
theorem dX11_cut_205 : decode cX11_cut 205 = .ok (.iaload, 1) := by decide +kernel
theorem dX11_cut_206 : decode cX11_cut 206 = .ok (.iconst (-1), 1) := by decide +kernel
theorem dX11_cut_207 : decode cX11_cut 207 = .ok (.iload_n 2, 1) := by decide +kernel
theorem dX11_cut_208 : decode cX11_cut 208 = .ok (.isub, 1) := by decide +kernel
theorem dX11_cut_209 : decode cX11_cut 209 = .ok (.if_icmp .eq 24, 3) := by decide +kernel
theorem dX11_cut_212 : decode cX11_cut 212 = .ok (.aload_n 0, 1) := by decide +kernel
theorem dX11_cut_213 : decode cX11_cut 213 = .ok (.aload_n 0, 1) := by decide +kernel
theorem dX11_cut_214 : decode cX11_cut 214 = .ok (.getfield 59, 3) := by decide +kernel
theorem dX11_cut_217 : decode cX11_cut 217 = .ok (.iload 7, 2) := by decide +kernel
theorem dX11_cut_219 : decode cX11_cut 219 = .ok (.iaload, 1) := by decide +kernel
theorem dX11_cut_220 : decode cX11_cut 220 = .ok (.aload_n 0, 1) := by decide +kernel
theorem dX11_cut_221 : decode cX11_cut 221 = .ok (.getfield 62, 3) := by decide +kernel
theorem dX11_cut_224 : decode cX11_cut 224 = .ok (.iload 7, 2) := by decide +kernel
theorem dX11_cut_226 : decode cX11_cut 226 = .ok (.iaload, 1) := by decide +kernel
theorem dX11_cut_227 : decode cX11_cut 227 = .ok (.invokevirtual 306, 3) := by decide +kernel
theorem dX11_cut_230 : decode cX11_cut 230 = .ok (.goto 103, 3) := by decide +kernel
theorem dX11_cut_233 : decode cX11_cut 233 = .ok (.iconst 0, 1) := by decide +kernel
theorem dX11_cut_234 : decode cX11_cut 234 = .ok (.istore 8, 2) := by decide +kernel
theorem dX11_cut_236 : decode cX11_cut 236 = .ok (.iload 8, 2) := by decide +kernel
theorem dX11_cut_238 : decode cX11_cut 238 = .ok (.aload_n 0, 1) := by decide +kernel
theorem dX11_cut_239 : decode cX11_cut 239 = .ok (.getfield 56, 3) := by decide +kernel
theorem dX11_cut_242 : decode cX11_cut 242 = .ok (.iload_n 3, 1) := by decide +kernel
theorem dX11_cut_243 : decode cX11_cut 243 = .ok (.iaload, 1) := by decide +kernel
theorem dX11_cut_244 : decode cX11_cut 244 = .ok (.if_icmp .ge 89, 3) := by decide +kernel
theorem dX11_cut_247 : decode cX11_cut 247 = .ok (.aload_n 0, 1) := by decide +kernel
theorem dX11_cut_248 : decode cX11_cut 248 = .ok (.getfield 53, 3) := by decide +kernel
theorem dX11_cut_251 : decode cX11_cut 251 = .ok (.sipush 200, 3) := by decide +kernel
theorem dX11_cut_254 : decode cX11_cut 254 = .ok (.iload_n 3, 1) := by decide +kernel
theorem dX11_cut_255 : decode cX11_cut 255 = .ok (.imul, 1) := by decide +kernel
theorem dX11_cut_256 : decode cX11_cut 256 = .ok (.iload 8, 2) := by decide +kernel
theorem dX11_cut_258 : decode cX11_cut 258 = .ok (.iadd, 1) := by decide +kernel
theorem dX11_cut_259 : decode cX11_cut 259 = .ok (.iaload, 1) := by decide +kernel
theorem dX11_cut_260 : decode cX11_cut 260 = .ok (.istore 9, 2) := by decide +kernel
theorem dX11_cut_262 : decode cX11_cut 262 = .ok (.aload_n 0, 1) := by decide +kernel
theorem dX11_cut_263 : decode cX11_cut 263 = .ok (.getfield 50, 3) := by decide +kernel
theorem dX11_cut_266 : decode cX11_cut 266 = .ok (.sipush 200, 3) := by decide +kernel
theorem dX11_cut_269 : decode cX11_cut 269 = .ok (.iload_n 3, 1) := by decide +kernel
theorem dX11_cut_270 : decode cX11_cut 270 = .ok (.imul, 1) := by decide +kernel
theorem dX11_cut_271 : decode cX11_cut 271 = .ok (.iload 8, 2) := by decide +kernel
theorem dX11_cut_273 : decode cX11_cut 273 = .ok (.iadd, 1) := by decide +kernel
theorem dX11_cut_274 : decode cX11_cut 274 = .ok (.iaload, 1) := by decide +kernel
theorem dX11_cut_275 : decode cX11_cut 275 = .ok (.ifCond .ne 12, 3) := by decide +kernel
theorem dX11_cut_278 : decode cX11_cut 278 = .ok (.iload 9, 2) := by decide +kernel
theorem dX11_cut_280 : decode cX11_cut 280 = .ok (.ifCond .lt 7, 3) := by decide +kernel
theorem dX11_cut_283 : decode cX11_cut 283 = .ok (.iconst 1, 1) := by decide +kernel
theorem dX11_cut_284 : decode cX11_cut 284 = .ok (.goto 4, 3) := by decide +kernel
theorem dX11_cut_287 : decode cX11_cut 287 = .ok (.iconst 0, 1) := by decide +kernel
theorem dX11_cut_288 : decode cX11_cut 288 = .ok (.istore 10, 2) := by decide +kernel
theorem dX11_cut_290 : decode cX11_cut 290 = .ok (.aload_n 0, 1) := by decide +kernel
theorem dX11_cut_291 : decode cX11_cut 291 = .ok (.aload_n 0, 1) := by decide +kernel
theorem dX11_cut_292 : decode cX11_cut 292 = .ok (.getfield 50, 3) := by decide +kernel
theorem dX11_cut_295 : decode cX11_cut 295 = .ok (.sipush 200, 3) := by decide +kernel
theorem dX11_cut_298 : decode cX11_cut 298 = .ok (.iload_n 3, 1) := by decide +kernel
theorem dX11_cut_299 : decode cX11_cut 299 = .ok (.imul, 1) := by decide +kernel
theorem dX11_cut_300 : decode cX11_cut 300 = .ok (.iload 8, 2) := by decide +kernel
theorem dX11_cut_302 : decode cX11_cut 302 = .ok (.iadd, 1) := by decide +kernel
theorem dX11_cut_303 : decode cX11_cut 303 = .ok (.iaload, 1) := by decide +kernel
theorem dX11_cut_304 : decode cX11_cut 304 = .ok (.iload 10, 2) := by decide +kernel
theorem dX11_cut_306 : decode cX11_cut 306 = .ok (.ifCond .eq 16, 3) := by decide +kernel
theorem dX11_cut_309 : decode cX11_cut 309 = .ok (.iload 9, 2) := by decide +kernel
theorem dX11_cut_311 : decode cX11_cut 311 = .ok (.aload_n 0, 1) := by decide +kernel
theorem dX11_cut_312 : decode cX11_cut 312 = .ok (.getfield 90, 3) := by decide +kernel
theorem dX11_cut_315 : decode cX11_cut 315 = .ok (.iload 7, 2) := by decide +kernel
theorem dX11_cut_317 : decode cX11_cut 317 = .ok (.iaload, 1) := by decide +kernel
theorem dX11_cut_318 : decode cX11_cut 318 = .ok (.iadd, 1) := by decide +kernel
theorem dX11_cut_319 : decode cX11_cut 319 = .ok (.goto 5, 3) := by decide +kernel
theorem dX11_cut_322 : decode cX11_cut 322 = .ok (.iload 9, 2) := by decide +kernel
theorem dX11_cut_324 : decode cX11_cut 324 = .ok (.invokevirtual 306, 3) := by decide +kernel
theorem dX11_cut_327 : decode cX11_cut 327 = .ok (.iinc 8 1, 3) := by decide +kernel
theorem dX11_cut_330 : decode cX11_cut 330 = .ok (.goto (-94), 3) := by decide +kernel
theorem dX11_cut_333 : decode cX11_cut 333 = .ok (.iinc 7 1, 3) := by decide +kernel
theorem dX11_cut_336 : decode cX11_cut 336 = .ok (.goto (-156), 3) := by decide +kernel
theorem dX11_cut_339 : decode cX11_cut 339 = .ok (.aload_n 0, 1) := by decide +kernel
theorem dX11_cut_340 : decode cX11_cut 340 = .ok (.invokevirtual 340, 3) := by decide +kernel
theorem dX11_cut_343 : decode cX11_cut 343 = .ok (.aload_n 0, 1) := by decide +kernel
theorem dX11_cut_344 : decode cX11_cut 344 = .ok (.iload 4, 2) := by decide +kernel
theorem dX11_cut_346 : decode cX11_cut 346 = .ok (.invokevirtual 278, 3) := by decide +kernel
theorem dX11_cut_349 : decode cX11_cut 349 = .ok (.aload_n 0, 1) := by decide +kernel
theorem dX11_cut_350 : decode cX11_cut 350 = .ok (.getfield 151, 3) := by decide +kernel
theorem dX11_cut_353 : decode cX11_cut 353 = .ok (.ireturn, 1) := by decide +kernel
theorem dX11_begins0_0 : decode cX11_begins0 0 = .ok (.aload_n 0, 1) := by decide +kernel
theorem dX11_begins0_1 : decode cX11_begins0 1 = .ok (.iconst 0, 1) := by decide +kernel
theorem dX11_begins0_2 : decode cX11_begins0 2 = .ok (.putfield 361, 3) := by decide +kernel
theorem dX11_begins0_5 : decode cX11_begins0 5 = .ok (.aload_n 0, 1) := by decide +kernel
theorem dX11_begins0_6 : decode cX11_begins0 6 = .ok (.iload_n 1, 1) := by decide +kernel
theorem dX11_begins0_7 : decode cX11_begins0 7 = .ok (.putfield 364, 3) := by decide +kernel
theorem dX11_begins0_10 : decode cX11_begins0 10 = .ok (.aload_n 0, 1) := by decide +kernel
theorem dX11_begins0_11 : decode cX11_begins0 11 = .ok (.iconst (-1), 1) := by decide +kernel
theorem dX11_begins0_12 : decode cX11_begins0 12 = .ok (.putfield 367, 3) := by decide +kernel
theorem dX11_begins0_15 : decode cX11_begins0 15 = .ok (.return_, 1) := by decide +kernel
theorem dX11_tells_0 : decode cX11_tells 0 = .ok (.aload_n 0, 1) := by decide +kernel
theorem dX11_tells_1 : decode cX11_tells 1 = .ok (.getfield 361, 3) := by decide +kernel
theorem dX11_tells_4 : decode cX11_tells 4 = .ok (.aload_n 0, 1) := by decide +kernel
theorem dX11_tells_5 : decode cX11_tells 5 = .ok (.getfield 364, 3) := by decide +kernel
theorem dX11_tells_8 : decode cX11_tells 8 = .ok (.if_icmp .ne 8, 3) := by decide +kernel
theorem dX11_tells_11 : decode cX11_tells 11 = .ok (.aload_n 0, 1) := by decide +kernel
theorem dX11_tells_12 : decode cX11_tells 12 = .ok (.iload_n 1, 1) := by decide +kernel
theorem dX11_tells_13 : decode cX11_tells 13 = .ok (.putfield 367, 3) := by decide +kernel
theorem dX11_tells_16 : decode cX11_tells 16 = .ok (.aload_n 0, 1) := by decide +kernel
theorem dX11_tells_17 : decode cX11_tells 17 = .ok (.dup, 1) := by decide +kernel
theorem dX11_tells_18 : decode cX11_tells 18 = .ok (.getfield 361, 3) := by decide +kernel
theorem dX11_tells_21 : decode cX11_tells 21 = .ok (.iconst 1, 1) := by decide +kernel
theorem dX11_tells_22 : decode cX11_tells 22 = .ok (.iadd, 1) := by decide +kernel
theorem dX11_tells_23 : decode cX11_tells 23 = .ok (.putfield 361, 3) := by decide +kernel
theorem dX11_tells_26 : decode cX11_tells 26 = .ok (.return_, 1) := by decide +kernel
theorem dX11_tellsWord_0 : decode cX11_tellsWord 0 = .ok (.aload_n 0, 1) := by decide +kernel
theorem dX11_tellsWord_1 : decode cX11_tellsWord 1 = .ok (.getfield 361, 3) := by decide +kernel
theorem dX11_tellsWord_4 : decode cX11_tellsWord 4 = .ok (.ifCond .le 9, 3) := by decide +kernel
theorem dX11_tellsWord_7 : decode cX11_tellsWord 7 = .ok (.aload_n 0, 1) := by decide +kernel
theorem dX11_tellsWord_8 : decode cX11_tellsWord 8 = .ok (.bipush 32, 2) := by decide +kernel
theorem dX11_tellsWord_10 : decode cX11_tellsWord 10 = .ok (.invokevirtual 370, 3) := by decide +kernel
theorem dX11_tellsWord_13 : decode cX11_tellsWord 13 = .ok (.iconst 0, 1) := by decide +kernel
theorem dX11_tellsWord_14 : decode cX11_tellsWord 14 = .ok (.istore_n 2, 1) := by decide +kernel
theorem dX11_tellsWord_15 : decode cX11_tellsWord 15 = .ok (.iconst 0, 1) := by decide +kernel
theorem dX11_tellsWord_16 : decode cX11_tellsWord 16 = .ok (.istore_n 3, 1) := by decide +kernel
theorem dX11_tellsWord_17 : decode cX11_tellsWord 17 = .ok (.iload_n 3, 1) := by decide +kernel
theorem dX11_tellsWord_18 : decode cX11_tellsWord 18 = .ok (.iload_n 1, 1) := by decide +kernel
theorem dX11_tellsWord_19 : decode cX11_tellsWord 19 = .ok (.if_icmp .ge 23, 3) := by decide +kernel
theorem dX11_tellsWord_22 : decode cX11_tellsWord 22 = .ok (.ldc 187, 2) := by decide +kernel
theorem dX11_tellsWord_24 : decode cX11_tellsWord 24 = .ok (.iload_n 2, 1) := by decide +kernel
theorem dX11_tellsWord_25 : decode cX11_tellsWord 25 = .ok (.invokevirtual 194, 3) := by decide +kernel
theorem dX11_tellsWord_28 : decode cX11_tellsWord 28 = .ok (.bipush 32, 2) := by decide +kernel
theorem dX11_tellsWord_30 : decode cX11_tellsWord 30 = .ok (.if_icmp .ne 6, 3) := by decide +kernel
theorem dX11_tellsWord_33 : decode cX11_tellsWord 33 = .ok (.iinc 3 1, 3) := by decide +kernel
theorem dX11_tellsWord_36 : decode cX11_tellsWord 36 = .ok (.iinc 2 1, 3) := by decide +kernel
theorem dX11_tellsWord_39 : decode cX11_tellsWord 39 = .ok (.goto (-22), 3) := by decide +kernel
theorem dX11_tellsWord_42 : decode cX11_tellsWord 42 = .ok (.ldc 187, 2) := by decide +kernel
theorem dX11_tellsWord_44 : decode cX11_tellsWord 44 = .ok (.iload_n 2, 1) := by decide +kernel
theorem dX11_tellsWord_45 : decode cX11_tellsWord 45 = .ok (.invokevirtual 194, 3) := by decide +kernel
theorem dX11_tellsWord_48 : decode cX11_tellsWord 48 = .ok (.bipush 32, 2) := by decide +kernel
theorem dX11_tellsWord_50 : decode cX11_tellsWord 50 = .ok (.if_icmp .eq 19, 3) := by decide +kernel
theorem dX11_tellsWord_53 : decode cX11_tellsWord 53 = .ok (.aload_n 0, 1) := by decide +kernel
theorem dX11_tellsWord_54 : decode cX11_tellsWord 54 = .ok (.ldc 187, 2) := by decide +kernel
theorem dX11_tellsWord_56 : decode cX11_tellsWord 56 = .ok (.iload_n 2, 1) := by decide +kernel
theorem dX11_tellsWord_57 : decode cX11_tellsWord 57 = .ok (.invokevirtual 194, 3) := by decide +kernel
theorem dX11_tellsWord_60 : decode cX11_tellsWord 60 = .ok (.invokevirtual 370, 3) := by decide +kernel
theorem dX11_tellsWord_63 : decode cX11_tellsWord 63 = .ok (.iinc 2 1, 3) := by decide +kernel
theorem dX11_tellsWord_66 : decode cX11_tellsWord 66 = .ok (.goto (-24), 3) := by decide +kernel
theorem dX11_tellsWord_69 : decode cX11_tellsWord 69 = .ok (.return_, 1) := by decide +kernel
theorem dX11_tellsFormula_0 : decode cX11_tellsFormula 0 = .ok (.aload_n 0, 1) := by decide +kernel
theorem dX11_tellsFormula_1 : decode cX11_tellsFormula 1 = .ok (.aload_n 0, 1) := by decide +kernel
theorem dX11_tellsFormula_2 : decode cX11_tellsFormula 2 = .ok (.getfield 13, 3) := by decide +kernel
theorem dX11_tellsFormula_5 : decode cX11_tellsFormula 5 = .ok (.iload_n 1, 1) := by decide +kernel
theorem dX11_tellsFormula_6 : decode cX11_tellsFormula 6 = .ok (.iaload, 1) := by decide +kernel
theorem dX11_tellsFormula_7 : decode cX11_tellsFormula 7 = .ok (.invokevirtual 373, 3) := by decide +kernel
theorem dX11_tellsFormula_10 : decode cX11_tellsFormula 10 = .ok (.aload_n 0, 1) := by decide +kernel
theorem dX11_tellsFormula_11 : decode cX11_tellsFormula 11 = .ok (.getfield 17, 3) := by decide +kernel
theorem dX11_tellsFormula_14 : decode cX11_tellsFormula 14 = .ok (.iload_n 1, 1) := by decide +kernel
theorem dX11_tellsFormula_15 : decode cX11_tellsFormula 15 = .ok (.iaload, 1) := by decide +kernel
theorem dX11_tellsFormula_16 : decode cX11_tellsFormula 16 = .ok (.iconst (-1), 1) := by decide +kernel
theorem dX11_tellsFormula_17 : decode cX11_tellsFormula 17 = .ok (.if_icmp .ne 4, 3) := by decide +kernel
theorem dX11_tellsFormula_20 : decode cX11_tellsFormula 20 = .ok (.return_, 1) := by decide +kernel
theorem dX11_tellsFormula_21 : decode cX11_tellsFormula 21 = .ok (.aload_n 0, 1) := by decide +kernel
theorem dX11_tellsFormula_22 : decode cX11_tellsFormula 22 = .ok (.aload_n 0, 1) := by decide +kernel
theorem dX11_tellsFormula_23 : decode cX11_tellsFormula 23 = .ok (.getfield 17, 3) := by decide +kernel
theorem dX11_tellsFormula_26 : decode cX11_tellsFormula 26 = .ok (.iload_n 1, 1) := by decide +kernel
theorem dX11_tellsFormula_27 : decode cX11_tellsFormula 27 = .ok (.iaload, 1) := by decide +kernel
theorem dX11_tellsFormula_28 : decode cX11_tellsFormula 28 = .ok (.invokevirtual 376, 3) := by decide +kernel
theorem dX11_tellsFormula_31 : decode cX11_tellsFormula 31 = .ok (.aload_n 0, 1) := by decide +kernel
theorem dX11_tellsFormula_32 : decode cX11_tellsFormula 32 = .ok (.aload_n 0, 1) := by decide +kernel
theorem dX11_tellsFormula_33 : decode cX11_tellsFormula 33 = .ok (.getfield 20, 3) := by decide +kernel
theorem dX11_tellsFormula_36 : decode cX11_tellsFormula 36 = .ok (.iload_n 1, 1) := by decide +kernel
theorem dX11_tellsFormula_37 : decode cX11_tellsFormula 37 = .ok (.iaload, 1) := by decide +kernel
theorem dX11_tellsFormula_38 : decode cX11_tellsFormula 38 = .ok (.invokevirtual 376, 3) := by decide +kernel
theorem dX11_tellsFormula_41 : decode cX11_tellsFormula 41 = .ok (.return_, 1) := by decide +kernel
theorem dX11_tellsHypothesis_0 : decode cX11_tellsHypothesis 0 = .ok (.aload_n 0, 1) := by decide +kernel
theorem dX11_tellsHypothesis_1 : decode cX11_tellsHypothesis 1 = .ok (.getfield 361, 3) := by decide +kernel
theorem dX11_tellsHypothesis_4 : decode cX11_tellsHypothesis 4 = .ok (.ifCond .le 9, 3) := by decide +kernel
theorem dX11_tellsHypothesis_7 : decode cX11_tellsHypothesis 7 = .ok (.aload_n 0, 1) := by decide +kernel
theorem dX11_tellsHypothesis_8 : decode cX11_tellsHypothesis 8 = .ok (.bipush 32, 2) := by decide +kernel
theorem dX11_tellsHypothesis_10 : decode cX11_tellsHypothesis 10 = .ok (.invokevirtual 370, 3) := by decide +kernel
theorem dX11_tellsHypothesis_13 : decode cX11_tellsHypothesis 13 = .ok (.iconst 0, 1) := by decide +kernel
theorem dX11_tellsHypothesis_14 : decode cX11_tellsHypothesis 14 = .ok (.istore_n 2, 1) := by decide +kernel
theorem dX11_tellsHypothesis_15 : decode cX11_tellsHypothesis 15 = .ok (.iload_n 2, 1) := by decide +kernel
theorem dX11_tellsHypothesis_16 : decode cX11_tellsHypothesis 16 = .ok (.aload_n 0, 1) := by decide +kernel
theorem dX11_tellsHypothesis_17 : decode cX11_tellsHypothesis 17 = .ok (.getfield 35, 3) := by decide +kernel
theorem dX11_tellsHypothesis_20 : decode cX11_tellsHypothesis 20 = .ok (.iload_n 1, 1) := by decide +kernel
theorem dX11_tellsHypothesis_21 : decode cX11_tellsHypothesis 21 = .ok (.iaload, 1) := by decide +kernel
theorem dX11_tellsHypothesis_22 : decode cX11_tellsHypothesis 22 = .ok (.if_icmp .ge 23, 3) := by decide +kernel
theorem dX11_tellsHypothesis_25 : decode cX11_tellsHypothesis 25 = .ok (.aload_n 0, 1) := by decide +kernel
theorem dX11_tellsHypothesis_26 : decode cX11_tellsHypothesis 26 = .ok (.aload_n 0, 1) := by decide +kernel
theorem dX11_tellsHypothesis_27 : decode cX11_tellsHypothesis 27 = .ok (.getfield 32, 3) := by decide +kernel
theorem dX11_tellsHypothesis_30 : decode cX11_tellsHypothesis 30 = .ok (.iconst 4, 1) := by decide +kernel
theorem dX11_tellsHypothesis_31 : decode cX11_tellsHypothesis 31 = .ok (.iload_n 1, 1) := by decide +kernel
theorem dX11_tellsHypothesis_32 : decode cX11_tellsHypothesis 32 = .ok (.imul, 1) := by decide +kernel
theorem dX11_tellsHypothesis_33 : decode cX11_tellsHypothesis 33 = .ok (.iload_n 2, 1) := by decide +kernel
theorem dX11_tellsHypothesis_34 : decode cX11_tellsHypothesis 34 = .ok (.iadd, 1) := by decide +kernel
theorem dX11_tellsHypothesis_35 : decode cX11_tellsHypothesis 35 = .ok (.iaload, 1) := by decide +kernel
theorem dX11_tellsHypothesis_36 : decode cX11_tellsHypothesis 36 = .ok (.invokevirtual 370, 3) := by decide +kernel
theorem dX11_tellsHypothesis_39 : decode cX11_tellsHypothesis 39 = .ok (.iinc 2 1, 3) := by decide +kernel
theorem dX11_tellsHypothesis_42 : decode cX11_tellsHypothesis 42 = .ok (.goto (-27), 3) := by decide +kernel
theorem dX11_tellsHypothesis_45 : decode cX11_tellsHypothesis 45 = .ok (.return_, 1) := by decide +kernel
theorem dX11_tellsLevel_0 : decode cX11_tellsLevel 0 = .ok (.aload_n 0, 1) := by decide +kernel
theorem dX11_tellsLevel_1 : decode cX11_tellsLevel 1 = .ok (.getfield 361, 3) := by decide +kernel
theorem dX11_tellsLevel_4 : decode cX11_tellsLevel 4 = .ok (.ifCond .le 9, 3) := by decide +kernel
theorem dX11_tellsLevel_7 : decode cX11_tellsLevel 7 = .ok (.aload_n 0, 1) := by decide +kernel
theorem dX11_tellsLevel_8 : decode cX11_tellsLevel 8 = .ok (.bipush 32, 2) := by decide +kernel
theorem dX11_tellsLevel_10 : decode cX11_tellsLevel 10 = .ok (.invokevirtual 370, 3) := by decide +kernel
theorem dX11_tellsLevel_13 : decode cX11_tellsLevel 13 = .ok (.aload_n 0, 1) := by decide +kernel
theorem dX11_tellsLevel_14 : decode cX11_tellsLevel 14 = .ok (.bipush 120, 2) := by decide +kernel
theorem dX11_tellsLevel_16 : decode cX11_tellsLevel 16 = .ok (.invokevirtual 370, 3) := by decide +kernel
theorem dX11_tellsLevel_19 : decode cX11_tellsLevel 19 = .ok (.iconst 1, 1) := by decide +kernel
theorem dX11_tellsLevel_20 : decode cX11_tellsLevel 20 = .ok (.istore_n 2, 1) := by decide +kernel
theorem dX11_tellsLevel_21 : decode cX11_tellsLevel 21 = .ok (.iload_n 1, 1) := by decide +kernel
theorem dX11_tellsLevel_22 : decode cX11_tellsLevel 22 = .ok (.bipush 26, 2) := by decide +kernel
theorem dX11_tellsLevel_24 : decode cX11_tellsLevel 24 = .ok (.idiv, 1) := by decide +kernel
theorem dX11_tellsLevel_25 : decode cX11_tellsLevel 25 = .ok (.iload_n 2, 1) := by decide +kernel
theorem dX11_tellsLevel_26 : decode cX11_tellsLevel 26 = .ok (.if_icmp .lt 11, 3) := by decide +kernel
theorem dX11_tellsLevel_29 : decode cX11_tellsLevel 29 = .ok (.iload_n 2, 1) := by decide +kernel
theorem dX11_tellsLevel_30 : decode cX11_tellsLevel 30 = .ok (.bipush 26, 2) := by decide +kernel
theorem dX11_tellsLevel_32 : decode cX11_tellsLevel 32 = .ok (.imul, 1) := by decide +kernel
theorem dX11_tellsLevel_33 : decode cX11_tellsLevel 33 = .ok (.istore_n 2, 1) := by decide +kernel
theorem dX11_tellsLevel_34 : decode cX11_tellsLevel 34 = .ok (.goto (-13), 3) := by decide +kernel
theorem dX11_tellsLevel_37 : decode cX11_tellsLevel 37 = .ok (.iload_n 2, 1) := by decide +kernel
theorem dX11_tellsLevel_38 : decode cX11_tellsLevel 38 = .ok (.istore_n 3, 1) := by decide +kernel
theorem dX11_tellsLevel_39 : decode cX11_tellsLevel 39 = .ok (.iload_n 3, 1) := by decide +kernel
theorem dX11_tellsLevel_40 : decode cX11_tellsLevel 40 = .ok (.ifCond .le 24, 3) := by decide +kernel
theorem dX11_tellsLevel_43 : decode cX11_tellsLevel 43 = .ok (.aload_n 0, 1) := by decide +kernel
theorem dX11_tellsLevel_44 : decode cX11_tellsLevel 44 = .ok (.bipush 97, 2) := by decide +kernel
theorem dX11_tellsLevel_46 : decode cX11_tellsLevel 46 = .ok (.iload_n 1, 1) := by decide +kernel
theorem dX11_tellsLevel_47 : decode cX11_tellsLevel 47 = .ok (.iload_n 3, 1) := by decide +kernel
theorem dX11_tellsLevel_48 : decode cX11_tellsLevel 48 = .ok (.idiv, 1) := by decide +kernel
theorem dX11_tellsLevel_49 : decode cX11_tellsLevel 49 = .ok (.bipush 26, 2) := by decide +kernel
theorem dX11_tellsLevel_51 : decode cX11_tellsLevel 51 = .ok (.irem, 1) := by decide +kernel
theorem dX11_tellsLevel_52 : decode cX11_tellsLevel 52 = .ok (.iadd, 1) := by decide +kernel
theorem dX11_tellsLevel_53 : decode cX11_tellsLevel 53 = .ok (.invokevirtual 370, 3) := by decide +kernel
theorem dX11_tellsLevel_56 : decode cX11_tellsLevel 56 = .ok (.iload_n 3, 1) := by decide +kernel
theorem dX11_tellsLevel_57 : decode cX11_tellsLevel 57 = .ok (.bipush 26, 2) := by decide +kernel
theorem dX11_tellsLevel_59 : decode cX11_tellsLevel 59 = .ok (.idiv, 1) := by decide +kernel
theorem dX11_tellsLevel_60 : decode cX11_tellsLevel 60 = .ok (.istore_n 3, 1) := by decide +kernel
theorem dX11_tellsLevel_61 : decode cX11_tellsLevel 61 = .ok (.goto (-22), 3) := by decide +kernel
theorem dX11_tellsLevel_64 : decode cX11_tellsLevel 64 = .ok (.return_, 1) := by decide +kernel
theorem dX11_tellsTerm_0 : decode cX11_tellsTerm 0 = .ok (.aload_n 0, 1) := by decide +kernel
theorem dX11_tellsTerm_1 : decode cX11_tellsTerm 1 = .ok (.getfield 283, 3) := by decide +kernel
theorem dX11_tellsTerm_4 : decode cX11_tellsTerm 4 = .ok (.istore_n 3, 1) := by decide +kernel
theorem dX11_tellsTerm_5 : decode cX11_tellsTerm 5 = .ok (.aload_n 0, 1) := by decide +kernel
theorem dX11_tellsTerm_6 : decode cX11_tellsTerm 6 = .ok (.dup, 1) := by decide +kernel
theorem dX11_tellsTerm_7 : decode cX11_tellsTerm 7 = .ok (.getfield 283, 3) := by decide +kernel
theorem dX11_tellsTerm_10 : decode cX11_tellsTerm 10 = .ok (.iconst 1, 1) := by decide +kernel
theorem dX11_tellsTerm_11 : decode cX11_tellsTerm 11 = .ok (.iadd, 1) := by decide +kernel
theorem dX11_tellsTerm_12 : decode cX11_tellsTerm 12 = .ok (.putfield 283, 3) := by decide +kernel
theorem dX11_tellsTerm_15 : decode cX11_tellsTerm 15 = .ok (.aload_n 0, 1) := by decide +kernel
theorem dX11_tellsTerm_16 : decode cX11_tellsTerm 16 = .ok (.getfield 59, 3) := by decide +kernel
theorem dX11_tellsTerm_19 : decode cX11_tellsTerm 19 = .ok (.iload_n 3, 1) := by decide +kernel
theorem dX11_tellsTerm_20 : decode cX11_tellsTerm 20 = .ok (.iaload, 1) := by decide +kernel
theorem dX11_tellsTerm_21 : decode cX11_tellsTerm 21 = .ok (.ifCond .ne 38, 3) := by decide +kernel
theorem dX11_tellsTerm_24 : decode cX11_tellsTerm 24 = .ok (.aload_n 0, 1) := by decide +kernel
theorem dX11_tellsTerm_25 : decode cX11_tellsTerm 25 = .ok (.getfield 62, 3) := by decide +kernel
theorem dX11_tellsTerm_28 : decode cX11_tellsTerm 28 = .ok (.iload_n 3, 1) := by decide +kernel
theorem dX11_tellsTerm_29 : decode cX11_tellsTerm 29 = .ok (.iaload, 1) := by decide +kernel
theorem dX11_tellsTerm_30 : decode cX11_tellsTerm 30 = .ok (.ifCond .ge 18, 3) := by decide +kernel
theorem dX11_tellsTerm_33 : decode cX11_tellsTerm 33 = .ok (.aload_n 0, 1) := by decide +kernel
theorem dX11_tellsTerm_34 : decode cX11_tellsTerm 34 = .ok (.iconst (-1), 1) := by decide +kernel
theorem dX11_tellsTerm_35 : decode cX11_tellsTerm 35 = .ok (.aload_n 0, 1) := by decide +kernel
theorem dX11_tellsTerm_36 : decode cX11_tellsTerm 36 = .ok (.getfield 62, 3) := by decide +kernel
theorem dX11_tellsTerm_39 : decode cX11_tellsTerm 39 = .ok (.iload_n 3, 1) := by decide +kernel
theorem dX11_tellsTerm_40 : decode cX11_tellsTerm 40 = .ok (.iaload, 1) := by decide +kernel
theorem dX11_tellsTerm_41 : decode cX11_tellsTerm 41 = .ok (.isub, 1) := by decide +kernel
theorem dX11_tellsTerm_42 : decode cX11_tellsTerm 42 = .ok (.invokevirtual 379, 3) := by decide +kernel
theorem dX11_tellsTerm_45 : decode cX11_tellsTerm 45 = .ok (.goto 13, 3) := by decide +kernel
theorem dX11_tellsTerm_48 : decode cX11_tellsTerm 48 = .ok (.aload_n 0, 1) := by decide +kernel
theorem dX11_tellsTerm_49 : decode cX11_tellsTerm 49 = .ok (.aload_n 0, 1) := by decide +kernel
theorem dX11_tellsTerm_50 : decode cX11_tellsTerm 50 = .ok (.getfield 62, 3) := by decide +kernel
theorem dX11_tellsTerm_53 : decode cX11_tellsTerm 53 = .ok (.iload_n 3, 1) := by decide +kernel
theorem dX11_tellsTerm_54 : decode cX11_tellsTerm 54 = .ok (.iaload, 1) := by decide +kernel
theorem dX11_tellsTerm_55 : decode cX11_tellsTerm 55 = .ok (.invokevirtual 382, 3) := by decide +kernel
theorem dX11_tellsTerm_58 : decode cX11_tellsTerm 58 = .ok (.return_, 1) := by decide +kernel
theorem dX11_tellsTerm_59 : decode cX11_tellsTerm 59 = .ok (.aload_n 0, 1) := by decide +kernel
theorem dX11_tellsTerm_60 : decode cX11_tellsTerm 60 = .ok (.aload_n 0, 1) := by decide +kernel
theorem dX11_tellsTerm_61 : decode cX11_tellsTerm 61 = .ok (.getfield 59, 3) := by decide +kernel
theorem dX11_tellsTerm_64 : decode cX11_tellsTerm 64 = .ok (.iload_n 3, 1) := by decide +kernel
theorem dX11_tellsTerm_65 : decode cX11_tellsTerm 65 = .ok (.iaload, 1) := by decide +kernel
theorem dX11_tellsTerm_66 : decode cX11_tellsTerm 66 = .ok (.iconst 1, 1) := by decide +kernel
theorem dX11_tellsTerm_67 : decode cX11_tellsTerm 67 = .ok (.isub, 1) := by decide +kernel
theorem dX11_tellsTerm_68 : decode cX11_tellsTerm 68 = .ok (.bipush 13, 2) := by decide +kernel
theorem dX11_tellsTerm_70 : decode cX11_tellsTerm 70 = .ok (.iadd, 1) := by decide +kernel
theorem dX11_tellsTerm_71 : decode cX11_tellsTerm 71 = .ok (.invokevirtual 373, 3) := by decide +kernel
theorem dX11_tellsTerm_74 : decode cX11_tellsTerm 74 = .ok (.aload_n 0, 1) := by decide +kernel
theorem dX11_tellsTerm_75 : decode cX11_tellsTerm 75 = .ok (.getfield 59, 3) := by decide +kernel
theorem dX11_tellsTerm_78 : decode cX11_tellsTerm 78 = .ok (.iload_n 3, 1) := by decide +kernel
theorem dX11_tellsTerm_79 : decode cX11_tellsTerm 79 = .ok (.iaload, 1) := by decide +kernel
theorem dX11_tellsTerm_80 : decode cX11_tellsTerm 80 = .ok (.iconst 1, 1) := by decide +kernel
theorem dX11_tellsTerm_81 : decode cX11_tellsTerm 81 = .ok (.if_icmp .ne 8, 3) := by decide +kernel
theorem dX11_tellsTerm_84 : decode cX11_tellsTerm 84 = .ok (.aload_n 0, 1) := by decide +kernel
theorem dX11_tellsTerm_85 : decode cX11_tellsTerm 85 = .ok (.iload_n 1, 1) := by decide +kernel
theorem dX11_tellsTerm_86 : decode cX11_tellsTerm 86 = .ok (.invokevirtual 382, 3) := by decide +kernel
theorem dX11_tellsTerm_89 : decode cX11_tellsTerm 89 = .ok (.aload_n 0, 1) := by decide +kernel
theorem dX11_tellsTerm_90 : decode cX11_tellsTerm 90 = .ok (.getfield 62, 3) := by decide +kernel
theorem dX11_tellsTerm_93 : decode cX11_tellsTerm 93 = .ok (.iload_n 3, 1) := by decide +kernel
theorem dX11_tellsTerm_94 : decode cX11_tellsTerm 94 = .ok (.iaload, 1) := by decide +kernel
theorem dX11_tellsTerm_95 : decode cX11_tellsTerm 95 = .ok (.ifCond .lt 17, 3) := by decide +kernel
theorem dX11_tellsTerm_98 : decode cX11_tellsTerm 98 = .ok (.iload_n 2, 1) := by decide +kernel
theorem dX11_tellsTerm_99 : decode cX11_tellsTerm 99 = .ok (.ifCond .ne 13, 3) := by decide +kernel
theorem dX11_tellsTerm_102 : decode cX11_tellsTerm 102 = .ok (.aload_n 0, 1) := by decide +kernel
theorem dX11_tellsTerm_103 : decode cX11_tellsTerm 103 = .ok (.aload_n 0, 1) := by decide +kernel
theorem dX11_tellsTerm_104 : decode cX11_tellsTerm 104 = .ok (.getfield 62, 3) := by decide +kernel
theorem dX11_tellsTerm_107 : decode cX11_tellsTerm 107 = .ok (.iload_n 3, 1) := by decide +kernel
theorem dX11_tellsTerm_108 : decode cX11_tellsTerm 108 = .ok (.iaload, 1) := by decide +kernel
theorem dX11_tellsTerm_109 : decode cX11_tellsTerm 109 = .ok (.invokevirtual 376, 3) := by decide +kernel
theorem dX11_tellsTerm_112 : decode cX11_tellsTerm 112 = .ok (.aload_n 0, 1) := by decide +kernel
theorem dX11_tellsTerm_113 : decode cX11_tellsTerm 113 = .ok (.aload_n 0, 1) := by decide +kernel
theorem dX11_tellsTerm_114 : decode cX11_tellsTerm 114 = .ok (.getfield 59, 3) := by decide +kernel
theorem dX11_tellsTerm_117 : decode cX11_tellsTerm 117 = .ok (.iload_n 3, 1) := by decide +kernel
theorem dX11_tellsTerm_118 : decode cX11_tellsTerm 118 = .ok (.iaload, 1) := by decide +kernel
theorem dX11_tellsTerm_119 : decode cX11_tellsTerm 119 = .ok (.iconst 1, 1) := by decide +kernel
theorem dX11_tellsTerm_120 : decode cX11_tellsTerm 120 = .ok (.if_icmp .ne 9, 3) := by decide +kernel
theorem dX11_tellsTerm_123 : decode cX11_tellsTerm 123 = .ok (.iload_n 1, 1) := by decide +kernel
theorem dX11_tellsTerm_124 : decode cX11_tellsTerm 124 = .ok (.iconst 1, 1) := by decide +kernel
theorem dX11_tellsTerm_125 : decode cX11_tellsTerm 125 = .ok (.iadd, 1) := by decide +kernel
theorem dX11_tellsTerm_126 : decode cX11_tellsTerm 126 = .ok (.goto 4, 3) := by decide +kernel
theorem dX11_tellsTerm_129 : decode cX11_tellsTerm 129 = .ok (.iload_n 1, 1) := by decide +kernel
theorem dX11_tellsTerm_130 : decode cX11_tellsTerm 130 = .ok (.iload_n 2, 1) := by decide +kernel
theorem dX11_tellsTerm_131 : decode cX11_tellsTerm 131 = .ok (.invokevirtual 385, 3) := by decide +kernel
theorem dX11_tellsTerm_134 : decode cX11_tellsTerm 134 = .ok (.aload_n 0, 1) := by decide +kernel
theorem dX11_tellsTerm_135 : decode cX11_tellsTerm 135 = .ok (.getfield 59, 3) := by decide +kernel
theorem dX11_tellsTerm_138 : decode cX11_tellsTerm 138 = .ok (.iload_n 3, 1) := by decide +kernel
theorem dX11_tellsTerm_139 : decode cX11_tellsTerm 139 = .ok (.iaload, 1) := by decide +kernel
theorem dX11_tellsTerm_140 : decode cX11_tellsTerm 140 = .ok (.iconst 2, 1) := by decide +kernel
theorem dX11_tellsTerm_141 : decode cX11_tellsTerm 141 = .ok (.if_icmp .eq 13, 3) := by decide +kernel
theorem dX11_tellsTerm_144 : decode cX11_tellsTerm 144 = .ok (.aload_n 0, 1) := by decide +kernel
theorem dX11_tellsTerm_145 : decode cX11_tellsTerm 145 = .ok (.getfield 59, 3) := by decide +kernel
theorem dX11_tellsTerm_148 : decode cX11_tellsTerm 148 = .ok (.iload_n 3, 1) := by decide +kernel
theorem dX11_tellsTerm_149 : decode cX11_tellsTerm 149 = .ok (.iaload, 1) := by decide +kernel
theorem dX11_tellsTerm_150 : decode cX11_tellsTerm 150 = .ok (.iconst 3, 1) := by decide +kernel
theorem dX11_tellsTerm_151 : decode cX11_tellsTerm 151 = .ok (.if_icmp .ne 9, 3) := by decide +kernel
theorem dX11_tellsTerm_154 : decode cX11_tellsTerm 154 = .ok (.aload_n 0, 1) := by decide +kernel
theorem dX11_tellsTerm_155 : decode cX11_tellsTerm 155 = .ok (.iload_n 1, 1) := by decide +kernel
theorem dX11_tellsTerm_156 : decode cX11_tellsTerm 156 = .ok (.iload_n 2, 1) := by decide +kernel
theorem dX11_tellsTerm_157 : decode cX11_tellsTerm 157 = .ok (.invokevirtual 385, 3) := by decide +kernel
theorem dX11_tellsTerm_160 : decode cX11_tellsTerm 160 = .ok (.iconst 0, 1) := by decide +kernel
theorem dX11_tellsTerm_161 : decode cX11_tellsTerm 161 = .ok (.istore 4, 2) := by decide +kernel
theorem dX11_tellsTerm_163 : decode cX11_tellsTerm 163 = .ok (.iload 4, 2) := by decide +kernel
theorem dX11_tellsTerm_165 : decode cX11_tellsTerm 165 = .ok (.iconst 2, 1) := by decide +kernel
theorem dX11_tellsTerm_166 : decode cX11_tellsTerm 166 = .ok (.if_icmp .ge 33, 3) := by decide +kernel
theorem dX11_tellsTerm_169 : decode cX11_tellsTerm 169 = .ok (.aload_n 0, 1) := by decide +kernel
theorem dX11_tellsTerm_170 : decode cX11_tellsTerm 170 = .ok (.getfield 59, 3) := by decide +kernel
theorem dX11_tellsTerm_173 : decode cX11_tellsTerm 173 = .ok (.iload_n 3, 1) := by decide +kernel
theorem dX11_tellsTerm_174 : decode cX11_tellsTerm 174 = .ok (.iaload, 1) := by decide +kernel
theorem dX11_tellsTerm_175 : decode cX11_tellsTerm 175 = .ok (.bipush 8, 2) := by decide +kernel
theorem dX11_tellsTerm_177 : decode cX11_tellsTerm 177 = .ok (.if_icmp .ne 22, 3) := by decide +kernel
theorem dX11_tellsTerm_180 : decode cX11_tellsTerm 180 = .ok (.aload_n 0, 1) := by decide +kernel
theorem dX11_tellsTerm_181 : decode cX11_tellsTerm 181 = .ok (.iload_n 1, 1) := by decide +kernel
theorem dX11_tellsTerm_182 : decode cX11_tellsTerm 182 = .ok (.invokevirtual 382, 3) := by decide +kernel
theorem dX11_tellsTerm_185 : decode cX11_tellsTerm 185 = .ok (.aload_n 0, 1) := by decide +kernel
theorem dX11_tellsTerm_186 : decode cX11_tellsTerm 186 = .ok (.iload_n 1, 1) := by decide +kernel
theorem dX11_tellsTerm_187 : decode cX11_tellsTerm 187 = .ok (.iconst 1, 1) := by decide +kernel
theorem dX11_tellsTerm_188 : decode cX11_tellsTerm 188 = .ok (.iadd, 1) := by decide +kernel
theorem dX11_tellsTerm_189 : decode cX11_tellsTerm 189 = .ok (.iload_n 2, 1) := by decide +kernel
theorem dX11_tellsTerm_190 : decode cX11_tellsTerm 190 = .ok (.invokevirtual 385, 3) := by decide +kernel
theorem dX11_tellsTerm_193 : decode cX11_tellsTerm 193 = .ok (.iinc 4 1, 3) := by decide +kernel
theorem dX11_tellsTerm_196 : decode cX11_tellsTerm 196 = .ok (.goto (-33), 3) := by decide +kernel
theorem dX11_tellsTerm_199 : decode cX11_tellsTerm 199 = .ok (.return_, 1) := by decide +kernel
theorem dX11_tellsSlot_0 : decode cX11_tellsSlot 0 = .ok (.aload_n 0, 1) := by decide +kernel
theorem dX11_tellsSlot_1 : decode cX11_tellsSlot 1 = .ok (.iload_n 1, 1) := by decide +kernel
theorem dX11_tellsSlot_2 : decode cX11_tellsSlot 2 = .ok (.invokevirtual 346, 3) := by decide +kernel
theorem dX11_tellsSlot_5 : decode cX11_tellsSlot 5 = .ok (.aload_n 0, 1) := by decide +kernel
theorem dX11_tellsSlot_6 : decode cX11_tellsSlot 6 = .ok (.iload_n 3, 1) := by decide +kernel
theorem dX11_tellsSlot_7 : decode cX11_tellsSlot 7 = .ok (.invokevirtual 389, 3) := by decide +kernel
theorem dX11_tellsSlot_10 : decode cX11_tellsSlot 10 = .ok (.aload_n 0, 1) := by decide +kernel
theorem dX11_tellsSlot_11 : decode cX11_tellsSlot 11 = .ok (.iconst 0, 1) := by decide +kernel
theorem dX11_tellsSlot_12 : decode cX11_tellsSlot 12 = .ok (.putfield 283, 3) := by decide +kernel
theorem dX11_tellsSlot_15 : decode cX11_tellsSlot 15 = .ok (.iload_n 2, 1) := by decide +kernel
theorem dX11_tellsSlot_16 : decode cX11_tellsSlot 16 = .ok (.iconst 2, 1) := by decide +kernel
theorem dX11_tellsSlot_17 : decode cX11_tellsSlot 17 = .ok (.if_icmp .ge 21, 3) := by decide +kernel
theorem dX11_tellsSlot_20 : decode cX11_tellsSlot 20 = .ok (.aload_n 0, 1) := by decide +kernel
theorem dX11_tellsSlot_21 : decode cX11_tellsSlot 21 = .ok (.iconst 0, 1) := by decide +kernel
theorem dX11_tellsSlot_22 : decode cX11_tellsSlot 22 = .ok (.iload_n 2, 1) := by decide +kernel
theorem dX11_tellsSlot_23 : decode cX11_tellsSlot 23 = .ok (.iconst 1, 1) := by decide +kernel
theorem dX11_tellsSlot_24 : decode cX11_tellsSlot 24 = .ok (.if_icmp .ne 7, 3) := by decide +kernel
theorem dX11_tellsSlot_27 : decode cX11_tellsSlot 27 = .ok (.iconst 1, 1) := by decide +kernel
theorem dX11_tellsSlot_28 : decode cX11_tellsSlot 28 = .ok (.goto 4, 3) := by decide +kernel
theorem dX11_tellsSlot_31 : decode cX11_tellsSlot 31 = .ok (.iconst 0, 1) := by decide +kernel
theorem dX11_tellsSlot_32 : decode cX11_tellsSlot 32 = .ok (.invokevirtual 385, 3) := by decide +kernel
theorem dX11_tellsSlot_35 : decode cX11_tellsSlot 35 = .ok (.goto 11, 3) := by decide +kernel
theorem dX11_tellsSlot_38 : decode cX11_tellsSlot 38 = .ok (.aload_n 0, 1) := by decide +kernel
theorem dX11_tellsSlot_39 : decode cX11_tellsSlot 39 = .ok (.aload_n 0, 1) := by decide +kernel
theorem dX11_tellsSlot_40 : decode cX11_tellsSlot 40 = .ok (.invokevirtual 331, 3) := by decide +kernel
theorem dX11_tellsSlot_43 : decode cX11_tellsSlot 43 = .ok (.invokevirtual 376, 3) := by decide +kernel
theorem dX11_tellsSlot_46 : decode cX11_tellsSlot 46 = .ok (.return_, 1) := by decide +kernel
theorem dX11_spell_0 : decode cX11_spell 0 = .ok (.aload_n 0, 1) := by decide +kernel
theorem dX11_spell_1 : decode cX11_spell 1 = .ok (.iconst 0, 1) := by decide +kernel
theorem dX11_spell_2 : decode cX11_spell 2 = .ok (.putfield 1, 3) := by decide +kernel
theorem dX11_spell_5 : decode cX11_spell 5 = .ok (.iload_n 1, 1) := by decide +kernel
theorem dX11_spell_6 : decode cX11_spell 6 = .ok (.invokestatic 271, 3) := by decide +kernel
theorem dX11_spell_9 : decode cX11_spell 9 = .ok (.ifCond .eq 15, 3) := by decide +kernel
theorem dX11_spell_12 : decode cX11_spell 12 = .ok (.iload_n 2, 1) := by decide +kernel
theorem dX11_spell_13 : decode cX11_spell 13 = .ok (.i2l, 1) := by decide +kernel
theorem dX11_spell_14 : decode cX11_spell 14 = .ok (.lconst 0, 1) := by decide +kernel
theorem dX11_spell_15 : decode cX11_spell 15 = .ok (.ldc2_w 392, 3) := by decide +kernel
theorem dX11_spell_18 : decode cX11_spell 18 = .ok (.invokestatic 180, 3) := by decide +kernel
theorem dX11_spell_21 : decode cX11_spell 21 = .ok (.ifCond .ne 6, 3) := by decide +kernel
theorem dX11_spell_24 : decode cX11_spell 24 = .ok (.bipush (-2), 2) := by decide +kernel
theorem dX11_spell_26 : decode cX11_spell 26 = .ok (.ireturn, 1) := by decide +kernel
theorem dX11_spell_27 : decode cX11_spell 27 = .ok (.iload_n 3, 1) := by decide +kernel
theorem dX11_spell_28 : decode cX11_spell 28 = .ok (.ifCond .ge 6, 3) := by decide +kernel
theorem dX11_spell_31 : decode cX11_spell 31 = .ok (.bipush (-3), 2) := by decide +kernel
theorem dX11_spell_33 : decode cX11_spell 33 = .ok (.ireturn, 1) := by decide +kernel
theorem dX11_spell_34 : decode cX11_spell 34 = .ok (.aload_n 0, 1) := by decide +kernel
theorem dX11_spell_35 : decode cX11_spell 35 = .ok (.iload_n 1, 1) := by decide +kernel
theorem dX11_spell_36 : decode cX11_spell 36 = .ok (.invokevirtual 343, 3) := by decide +kernel
theorem dX11_spell_39 : decode cX11_spell 39 = .ok (.ifCond .eq 6, 3) := by decide +kernel
theorem dX11_spell_42 : decode cX11_spell 42 = .ok (.bipush (-5), 2) := by decide +kernel
theorem dX11_spell_44 : decode cX11_spell 44 = .ok (.ireturn, 1) := by decide +kernel
theorem dX11_spell_45 : decode cX11_spell 45 = .ok (.aload_n 0, 1) := by decide +kernel
theorem dX11_spell_46 : decode cX11_spell 46 = .ok (.iload_n 1, 1) := by decide +kernel
theorem dX11_spell_47 : decode cX11_spell 47 = .ok (.iload_n 2, 1) := by decide +kernel
theorem dX11_spell_48 : decode cX11_spell 48 = .ok (.iload_n 3, 1) := by decide +kernel
theorem dX11_spell_49 : decode cX11_spell 49 = .ok (.invokevirtual 394, 3) := by decide +kernel
theorem dX11_spell_52 : decode cX11_spell 52 = .ok (.aload_n 0, 1) := by decide +kernel
theorem dX11_spell_53 : decode cX11_spell 53 = .ok (.getfield 367, 3) := by decide +kernel
theorem dX11_spell_56 : decode cX11_spell 56 = .ok (.ireturn, 1) := by decide +kernel
theorem dX11_length_0 : decode cX11_length 0 = .ok (.aload_n 0, 1) := by decide +kernel
theorem dX11_length_1 : decode cX11_length 1 = .ok (.iconst 0, 1) := by decide +kernel
theorem dX11_length_2 : decode cX11_length 2 = .ok (.putfield 1, 3) := by decide +kernel
theorem dX11_length_5 : decode cX11_length 5 = .ok (.iload_n 1, 1) := by decide +kernel
theorem dX11_length_6 : decode cX11_length 6 = .ok (.invokestatic 271, 3) := by decide +kernel
theorem dX11_length_9 : decode cX11_length 9 = .ok (.ifCond .eq 15, 3) := by decide +kernel
theorem dX11_length_12 : decode cX11_length 12 = .ok (.iload_n 2, 1) := by decide +kernel
theorem dX11_length_13 : decode cX11_length 13 = .ok (.i2l, 1) := by decide +kernel
theorem dX11_length_14 : decode cX11_length 14 = .ok (.lconst 0, 1) := by decide +kernel
theorem dX11_length_15 : decode cX11_length 15 = .ok (.ldc2_w 392, 3) := by decide +kernel
theorem dX11_length_18 : decode cX11_length 18 = .ok (.invokestatic 180, 3) := by decide +kernel
theorem dX11_length_21 : decode cX11_length 21 = .ok (.ifCond .ne 6, 3) := by decide +kernel
theorem dX11_length_24 : decode cX11_length 24 = .ok (.bipush (-2), 2) := by decide +kernel
theorem dX11_length_26 : decode cX11_length 26 = .ok (.ireturn, 1) := by decide +kernel
theorem dX11_length_27 : decode cX11_length 27 = .ok (.aload_n 0, 1) := by decide +kernel
theorem dX11_length_28 : decode cX11_length 28 = .ok (.iload_n 1, 1) := by decide +kernel
theorem dX11_length_29 : decode cX11_length 29 = .ok (.invokevirtual 343, 3) := by decide +kernel
theorem dX11_length_32 : decode cX11_length 32 = .ok (.ifCond .eq 6, 3) := by decide +kernel
theorem dX11_length_35 : decode cX11_length 35 = .ok (.bipush (-5), 2) := by decide +kernel
theorem dX11_length_37 : decode cX11_length 37 = .ok (.ireturn, 1) := by decide +kernel
theorem dX11_length_38 : decode cX11_length 38 = .ok (.aload_n 0, 1) := by decide +kernel
theorem dX11_length_39 : decode cX11_length 39 = .ok (.iload_n 1, 1) := by decide +kernel
theorem dX11_length_40 : decode cX11_length 40 = .ok (.iload_n 2, 1) := by decide +kernel
theorem dX11_length_41 : decode cX11_length 41 = .ok (.iconst (-1), 1) := by decide +kernel
theorem dX11_length_42 : decode cX11_length 42 = .ok (.invokevirtual 394, 3) := by decide +kernel
theorem dX11_length_45 : decode cX11_length 45 = .ok (.aload_n 0, 1) := by decide +kernel
theorem dX11_length_46 : decode cX11_length 46 = .ok (.getfield 361, 3) := by decide +kernel
theorem dX11_length_49 : decode cX11_length 49 = .ok (.ireturn, 1) := by decide +kernel
theorem dX11_hypothesis_0 : decode cX11_hypothesis 0 = .ok (.aload_n 0, 1) := by decide +kernel
theorem dX11_hypothesis_1 : decode cX11_hypothesis 1 = .ok (.iconst 0, 1) := by decide +kernel
theorem dX11_hypothesis_2 : decode cX11_hypothesis 2 = .ok (.putfield 1, 3) := by decide +kernel
theorem dX11_hypothesis_5 : decode cX11_hypothesis 5 = .ok (.iload_n 1, 1) := by decide +kernel
theorem dX11_hypothesis_6 : decode cX11_hypothesis 6 = .ok (.i2l, 1) := by decide +kernel
theorem dX11_hypothesis_7 : decode cX11_hypothesis 7 = .ok (.lconst 0, 1) := by decide +kernel
theorem dX11_hypothesis_8 : decode cX11_hypothesis 8 = .ok (.aload_n 0, 1) := by decide +kernel
theorem dX11_hypothesis_9 : decode cX11_hypothesis 9 = .ok (.getfield 144, 3) := by decide +kernel
theorem dX11_hypothesis_12 : decode cX11_hypothesis 12 = .ok (.iconst 1, 1) := by decide +kernel
theorem dX11_hypothesis_13 : decode cX11_hypothesis 13 = .ok (.isub, 1) := by decide +kernel
theorem dX11_hypothesis_14 : decode cX11_hypothesis 14 = .ok (.i2l, 1) := by decide +kernel
theorem dX11_hypothesis_15 : decode cX11_hypothesis 15 = .ok (.invokestatic 180, 3) := by decide +kernel
theorem dX11_hypothesis_18 : decode cX11_hypothesis 18 = .ok (.ifCond .eq 13, 3) := by decide +kernel
theorem dX11_hypothesis_21 : decode cX11_hypothesis 21 = .ok (.iload_n 2, 1) := by decide +kernel
theorem dX11_hypothesis_22 : decode cX11_hypothesis 22 = .ok (.i2l, 1) := by decide +kernel
theorem dX11_hypothesis_23 : decode cX11_hypothesis 23 = .ok (.lconst 0, 1) := by decide +kernel
theorem dX11_hypothesis_24 : decode cX11_hypothesis 24 = .ok (.lconst 1, 1) := by decide +kernel
theorem dX11_hypothesis_25 : decode cX11_hypothesis 25 = .ok (.invokestatic 180, 3) := by decide +kernel
theorem dX11_hypothesis_28 : decode cX11_hypothesis 28 = .ok (.ifCond .ne 6, 3) := by decide +kernel
theorem dX11_hypothesis_31 : decode cX11_hypothesis 31 = .ok (.bipush (-2), 2) := by decide +kernel
theorem dX11_hypothesis_33 : decode cX11_hypothesis 33 = .ok (.ireturn, 1) := by decide +kernel
theorem dX11_hypothesis_34 : decode cX11_hypothesis 34 = .ok (.iload_n 3, 1) := by decide +kernel
theorem dX11_hypothesis_35 : decode cX11_hypothesis 35 = .ok (.ifCond .ge 6, 3) := by decide +kernel
theorem dX11_hypothesis_38 : decode cX11_hypothesis 38 = .ok (.bipush (-3), 2) := by decide +kernel
theorem dX11_hypothesis_40 : decode cX11_hypothesis 40 = .ok (.ireturn, 1) := by decide +kernel
theorem dX11_hypothesis_41 : decode cX11_hypothesis 41 = .ok (.aload_n 0, 1) := by decide +kernel
theorem dX11_hypothesis_42 : decode cX11_hypothesis 42 = .ok (.iload_n 3, 1) := by decide +kernel
theorem dX11_hypothesis_43 : decode cX11_hypothesis 43 = .ok (.invokevirtual 389, 3) := by decide +kernel
theorem dX11_hypothesis_46 : decode cX11_hypothesis 46 = .ok (.iload_n 2, 1) := by decide +kernel
theorem dX11_hypothesis_47 : decode cX11_hypothesis 47 = .ok (.ifCond .ne 11, 3) := by decide +kernel
theorem dX11_hypothesis_50 : decode cX11_hypothesis 50 = .ok (.aload_n 0, 1) := by decide +kernel
theorem dX11_hypothesis_51 : decode cX11_hypothesis 51 = .ok (.iload_n 1, 1) := by decide +kernel
theorem dX11_hypothesis_52 : decode cX11_hypothesis 52 = .ok (.invokevirtual 379, 3) := by decide +kernel
theorem dX11_hypothesis_55 : decode cX11_hypothesis 55 = .ok (.goto 13, 3) := by decide +kernel
theorem dX11_hypothesis_58 : decode cX11_hypothesis 58 = .ok (.aload_n 0, 1) := by decide +kernel
theorem dX11_hypothesis_59 : decode cX11_hypothesis 59 = .ok (.aload_n 0, 1) := by decide +kernel
theorem dX11_hypothesis_60 : decode cX11_hypothesis 60 = .ok (.getfield 38, 3) := by decide +kernel
theorem dX11_hypothesis_63 : decode cX11_hypothesis 63 = .ok (.iload_n 1, 1) := by decide +kernel
theorem dX11_hypothesis_64 : decode cX11_hypothesis 64 = .ok (.iaload, 1) := by decide +kernel
theorem dX11_hypothesis_65 : decode cX11_hypothesis 65 = .ok (.invokevirtual 376, 3) := by decide +kernel
theorem dX11_hypothesis_68 : decode cX11_hypothesis 68 = .ok (.aload_n 0, 1) := by decide +kernel
theorem dX11_hypothesis_69 : decode cX11_hypothesis 69 = .ok (.getfield 367, 3) := by decide +kernel
theorem dX11_hypothesis_72 : decode cX11_hypothesis 72 = .ok (.ireturn, 1) := by decide +kernel
theorem dX11_goalByte_0 : decode cX11_goalByte 0 = .ok (.aload_n 0, 1) := by decide +kernel
theorem dX11_goalByte_1 : decode cX11_goalByte 1 = .ok (.iconst 0, 1) := by decide +kernel
theorem dX11_goalByte_2 : decode cX11_goalByte 2 = .ok (.putfield 1, 3) := by decide +kernel
theorem dX11_goalByte_5 : decode cX11_goalByte 5 = .ok (.iload_n 1, 1) := by decide +kernel
theorem dX11_goalByte_6 : decode cX11_goalByte 6 = .ok (.ifCond .ge 6, 3) := by decide +kernel
theorem dX11_goalByte_9 : decode cX11_goalByte 9 = .ok (.bipush (-3), 2) := by decide +kernel
theorem dX11_goalByte_11 : decode cX11_goalByte 11 = .ok (.ireturn, 1) := by decide +kernel
theorem dX11_goalByte_12 : decode cX11_goalByte 12 = .ok (.aload_n 0, 1) := by decide +kernel
theorem dX11_goalByte_13 : decode cX11_goalByte 13 = .ok (.iload_n 1, 1) := by decide +kernel
theorem dX11_goalByte_14 : decode cX11_goalByte 14 = .ok (.invokevirtual 389, 3) := by decide +kernel
theorem dX11_goalByte_17 : decode cX11_goalByte 17 = .ok (.aload_n 0, 1) := by decide +kernel
theorem dX11_goalByte_18 : decode cX11_goalByte 18 = .ok (.aload_n 0, 1) := by decide +kernel
theorem dX11_goalByte_19 : decode cX11_goalByte 19 = .ok (.getfield 134, 3) := by decide +kernel
theorem dX11_goalByte_22 : decode cX11_goalByte 22 = .ok (.invokevirtual 376, 3) := by decide +kernel
theorem dX11_goalByte_25 : decode cX11_goalByte 25 = .ok (.aload_n 0, 1) := by decide +kernel
theorem dX11_goalByte_26 : decode cX11_goalByte 26 = .ok (.getfield 367, 3) := by decide +kernel
theorem dX11_goalByte_29 : decode cX11_goalByte 29 = .ok (.ireturn, 1) := by decide +kernel
theorem dX11_count_0 : decode cX11_count 0 = .ok (.aload_n 0, 1) := by decide +kernel
theorem dX11_count_1 : decode cX11_count 1 = .ok (.iconst 0, 1) := by decide +kernel
theorem dX11_count_2 : decode cX11_count 2 = .ok (.putfield 1, 3) := by decide +kernel
theorem dX11_count_5 : decode cX11_count 5 = .ok (.iload_n 1, 1) := by decide +kernel
theorem dX11_count_6 : decode cX11_count 6 = .ok (.tableswitch 80 0 3 #[30, 35, 70, 75], 30) := by decide +kernel
theorem dX11_count_36 : decode cX11_count 36 = .ok (.aload_n 0, 1) := by decide +kernel
theorem dX11_count_37 : decode cX11_count 37 = .ok (.getfield 144, 3) := by decide +kernel
theorem dX11_count_40 : decode cX11_count 40 = .ok (.ireturn, 1) := by decide +kernel
theorem dX11_count_41 : decode cX11_count 41 = .ok (.iconst 0, 1) := by decide +kernel
theorem dX11_count_42 : decode cX11_count 42 = .ok (.istore_n 2, 1) := by decide +kernel
theorem dX11_count_43 : decode cX11_count 43 = .ok (.iconst 0, 1) := by decide +kernel
theorem dX11_count_44 : decode cX11_count 44 = .ok (.istore_n 3, 1) := by decide +kernel
theorem dX11_count_45 : decode cX11_count 45 = .ok (.iload_n 3, 1) := by decide +kernel
theorem dX11_count_46 : decode cX11_count 46 = .ok (.iconst 4, 1) := by decide +kernel
theorem dX11_count_47 : decode cX11_count 47 = .ok (.if_icmp .ge 27, 3) := by decide +kernel
theorem dX11_count_50 : decode cX11_count 50 = .ok (.iload_n 2, 1) := by decide +kernel
theorem dX11_count_51 : decode cX11_count 51 = .ok (.aload_n 0, 1) := by decide +kernel
theorem dX11_count_52 : decode cX11_count 52 = .ok (.iload_n 3, 1) := by decide +kernel
theorem dX11_count_53 : decode cX11_count 53 = .ok (.invokevirtual 343, 3) := by decide +kernel
theorem dX11_count_56 : decode cX11_count 56 = .ok (.ifCond .eq 7, 3) := by decide +kernel
theorem dX11_count_59 : decode cX11_count 59 = .ok (.iconst 0, 1) := by decide +kernel
theorem dX11_count_60 : decode cX11_count 60 = .ok (.goto 6, 3) := by decide +kernel
theorem dX11_count_63 : decode cX11_count 63 = .ok (.iconst 1, 1) := by decide +kernel
theorem dX11_count_64 : decode cX11_count 64 = .ok (.iload_n 3, 1) := by decide +kernel
theorem dX11_count_65 : decode cX11_count 65 = .ok (.ishl, 1) := by decide +kernel
theorem dX11_count_66 : decode cX11_count 66 = .ok (.ior, 1) := by decide +kernel
theorem dX11_count_67 : decode cX11_count 67 = .ok (.istore_n 2, 1) := by decide +kernel
theorem dX11_count_68 : decode cX11_count 68 = .ok (.iinc 3 1, 3) := by decide +kernel
theorem dX11_count_71 : decode cX11_count 71 = .ok (.goto (-26), 3) := by decide +kernel
theorem dX11_count_74 : decode cX11_count 74 = .ok (.iload_n 2, 1) := by decide +kernel
theorem dX11_count_75 : decode cX11_count 75 = .ok (.ireturn, 1) := by decide +kernel
theorem dX11_count_76 : decode cX11_count 76 = .ok (.aload_n 0, 1) := by decide +kernel
theorem dX11_count_77 : decode cX11_count 77 = .ok (.getfield 154, 3) := by decide +kernel
theorem dX11_count_80 : decode cX11_count 80 = .ok (.ireturn, 1) := by decide +kernel
theorem dX11_count_81 : decode cX11_count 81 = .ok (.aload_n 0, 1) := by decide +kernel
theorem dX11_count_82 : decode cX11_count 82 = .ok (.getfield 358, 3) := by decide +kernel
theorem dX11_count_85 : decode cX11_count 85 = .ok (.ireturn, 1) := by decide +kernel
theorem dX11_count_86 : decode cX11_count 86 = .ok (.iconst (-1), 1) := by decide +kernel
theorem dX11_count_87 : decode cX11_count 87 = .ok (.ireturn, 1) := by decide +kernel
theorem dX11_deepest_0 : decode cX11_deepest 0 = .ok (.aload_n 0, 1) := by decide +kernel
theorem dX11_deepest_1 : decode cX11_deepest 1 = .ok (.iconst 0, 1) := by decide +kernel
theorem dX11_deepest_2 : decode cX11_deepest 2 = .ok (.putfield 283, 3) := by decide +kernel
theorem dX11_deepest_5 : decode cX11_deepest 5 = .ok (.aload_n 0, 1) := by decide +kernel
theorem dX11_deepest_6 : decode cX11_deepest 6 = .ok (.invokevirtual 397, 3) := by decide +kernel
theorem dX11_deepest_9 : decode cX11_deepest 9 = .ok (.ireturn, 1) := by decide +kernel
theorem dX11_deepestFrom_0 : decode cX11_deepestFrom 0 = .ok (.aload_n 0, 1) := by decide +kernel
theorem dX11_deepestFrom_1 : decode cX11_deepestFrom 1 = .ok (.getfield 283, 3) := by decide +kernel
theorem dX11_deepestFrom_4 : decode cX11_deepestFrom 4 = .ok (.istore_n 1, 1) := by decide +kernel
theorem dX11_deepestFrom_5 : decode cX11_deepestFrom 5 = .ok (.aload_n 0, 1) := by decide +kernel
theorem dX11_deepestFrom_6 : decode cX11_deepestFrom 6 = .ok (.dup, 1) := by decide +kernel
theorem dX11_deepestFrom_7 : decode cX11_deepestFrom 7 = .ok (.getfield 283, 3) := by decide +kernel
theorem dX11_deepestFrom_10 : decode cX11_deepestFrom 10 = .ok (.iconst 1, 1) := by decide +kernel
theorem dX11_deepestFrom_11 : decode cX11_deepestFrom 11 = .ok (.iadd, 1) := by decide +kernel
theorem dX11_deepestFrom_12 : decode cX11_deepestFrom 12 = .ok (.putfield 283, 3) := by decide +kernel
theorem dX11_deepestFrom_15 : decode cX11_deepestFrom 15 = .ok (.iconst 0, 1) := by decide +kernel
theorem dX11_deepestFrom_16 : decode cX11_deepestFrom 16 = .ok (.istore_n 2, 1) := by decide +kernel
theorem dX11_deepestFrom_17 : decode cX11_deepestFrom 17 = .ok (.iconst 0, 1) := by decide +kernel
theorem dX11_deepestFrom_18 : decode cX11_deepestFrom 18 = .ok (.istore_n 3, 1) := by decide +kernel
theorem dX11_deepestFrom_19 : decode cX11_deepestFrom 19 = .ok (.iload_n 3, 1) := by decide +kernel
theorem dX11_deepestFrom_20 : decode cX11_deepestFrom 20 = .ok (.aload_n 0, 1) := by decide +kernel
theorem dX11_deepestFrom_21 : decode cX11_deepestFrom 21 = .ok (.getfield 59, 3) := by decide +kernel
theorem dX11_deepestFrom_24 : decode cX11_deepestFrom 24 = .ok (.iload_n 1, 1) := by decide +kernel
theorem dX11_deepestFrom_25 : decode cX11_deepestFrom 25 = .ok (.iaload, 1) := by decide +kernel
theorem dX11_deepestFrom_26 : decode cX11_deepestFrom 26 = .ok (.invokestatic 297, 3) := by decide +kernel
theorem dX11_deepestFrom_29 : decode cX11_deepestFrom 29 = .ok (.if_icmp .ge 28, 3) := by decide +kernel
theorem dX11_deepestFrom_32 : decode cX11_deepestFrom 32 = .ok (.aload_n 0, 1) := by decide +kernel
theorem dX11_deepestFrom_33 : decode cX11_deepestFrom 33 = .ok (.invokevirtual 397, 3) := by decide +kernel
theorem dX11_deepestFrom_36 : decode cX11_deepestFrom 36 = .ok (.istore 4, 2) := by decide +kernel
theorem dX11_deepestFrom_38 : decode cX11_deepestFrom 38 = .ok (.iload 4, 2) := by decide +kernel
theorem dX11_deepestFrom_40 : decode cX11_deepestFrom 40 = .ok (.iload_n 2, 1) := by decide +kernel
theorem dX11_deepestFrom_41 : decode cX11_deepestFrom 41 = .ok (.if_icmp .le 8, 3) := by decide +kernel
theorem dX11_deepestFrom_44 : decode cX11_deepestFrom 44 = .ok (.iload 4, 2) := by decide +kernel
theorem dX11_deepestFrom_46 : decode cX11_deepestFrom 46 = .ok (.goto 4, 3) := by decide +kernel
theorem dX11_deepestFrom_49 : decode cX11_deepestFrom 49 = .ok (.iload_n 2, 1) := by decide +kernel
theorem dX11_deepestFrom_50 : decode cX11_deepestFrom 50 = .ok (.istore_n 2, 1) := by decide +kernel
theorem dX11_deepestFrom_51 : decode cX11_deepestFrom 51 = .ok (.iinc 3 1, 3) := by decide +kernel
theorem dX11_deepestFrom_54 : decode cX11_deepestFrom 54 = .ok (.goto (-35), 3) := by decide +kernel
theorem dX11_deepestFrom_57 : decode cX11_deepestFrom 57 = .ok (.iload_n 2, 1) := by decide +kernel
theorem dX11_deepestFrom_58 : decode cX11_deepestFrom 58 = .ok (.iconst 1, 1) := by decide +kernel
theorem dX11_deepestFrom_59 : decode cX11_deepestFrom 59 = .ok (.iadd, 1) := by decide +kernel
theorem dX11_deepestFrom_60 : decode cX11_deepestFrom 60 = .ok (.ireturn, 1) := by decide +kernel
theorem dX11_unlike_0 : decode cX11_unlike 0 = .ok (.aload_n 0, 1) := by decide +kernel
theorem dX11_unlike_1 : decode cX11_unlike 1 = .ok (.invokevirtual 331, 3) := by decide +kernel
theorem dX11_unlike_4 : decode cX11_unlike 4 = .ok (.istore_n 2, 1) := by decide +kernel
theorem dX11_unlike_5 : decode cX11_unlike 5 = .ok (.iconst 0, 1) := by decide +kernel
theorem dX11_unlike_6 : decode cX11_unlike 6 = .ok (.istore_n 3, 1) := by decide +kernel
theorem dX11_unlike_7 : decode cX11_unlike 7 = .ok (.iload_n 3, 1) := by decide +kernel
theorem dX11_unlike_8 : decode cX11_unlike 8 = .ok (.aload_n 0, 1) := by decide +kernel
theorem dX11_unlike_9 : decode cX11_unlike 9 = .ok (.getfield 137, 3) := by decide +kernel
theorem dX11_unlike_12 : decode cX11_unlike 12 = .ok (.if_icmp .ge 16, 3) := by decide +kernel
theorem dX11_unlike_15 : decode cX11_unlike 15 = .ok (.aload_n 0, 1) := by decide +kernel
theorem dX11_unlike_16 : decode cX11_unlike 16 = .ok (.getfield 29, 3) := by decide +kernel
theorem dX11_unlike_19 : decode cX11_unlike 19 = .ok (.iload_n 3, 1) := by decide +kernel
theorem dX11_unlike_20 : decode cX11_unlike 20 = .ok (.iconst (-1), 1) := by decide +kernel
theorem dX11_unlike_21 : decode cX11_unlike 21 = .ok (.iastore, 1) := by decide +kernel
theorem dX11_unlike_22 : decode cX11_unlike 22 = .ok (.iinc 3 1, 3) := by decide +kernel
theorem dX11_unlike_25 : decode cX11_unlike 25 = .ok (.goto (-18), 3) := by decide +kernel
theorem dX11_unlike_28 : decode cX11_unlike 28 = .ok (.iload_n 1, 1) := by decide +kernel
theorem dX11_unlike_29 : decode cX11_unlike 29 = .ok (.ifCond .eq 34, 3) := by decide +kernel
theorem dX11_unlike_32 : decode cX11_unlike 32 = .ok (.aload_n 0, 1) := by decide +kernel
theorem dX11_unlike_33 : decode cX11_unlike 33 = .ok (.iload_n 2, 1) := by decide +kernel
theorem dX11_unlike_34 : decode cX11_unlike 34 = .ok (.invokevirtual 147, 3) := by decide +kernel
theorem dX11_unlike_37 : decode cX11_unlike 37 = .ok (.iconst 0, 1) := by decide +kernel
theorem dX11_unlike_38 : decode cX11_unlike 38 = .ok (.istore_n 3, 1) := by decide +kernel
theorem dX11_unlike_39 : decode cX11_unlike 39 = .ok (.iload_n 3, 1) := by decide +kernel
theorem dX11_unlike_40 : decode cX11_unlike 40 = .ok (.aload_n 0, 1) := by decide +kernel
theorem dX11_unlike_41 : decode cX11_unlike 41 = .ok (.getfield 144, 3) := by decide +kernel
theorem dX11_unlike_44 : decode cX11_unlike 44 = .ok (.if_icmp .ge 19, 3) := by decide +kernel
theorem dX11_unlike_47 : decode cX11_unlike 47 = .ok (.aload_n 0, 1) := by decide +kernel
theorem dX11_unlike_48 : decode cX11_unlike 48 = .ok (.aload_n 0, 1) := by decide +kernel
theorem dX11_unlike_49 : decode cX11_unlike 49 = .ok (.getfield 38, 3) := by decide +kernel
theorem dX11_unlike_52 : decode cX11_unlike 52 = .ok (.iload_n 3, 1) := by decide +kernel
theorem dX11_unlike_53 : decode cX11_unlike 53 = .ok (.iaload, 1) := by decide +kernel
theorem dX11_unlike_54 : decode cX11_unlike 54 = .ok (.invokevirtual 147, 3) := by decide +kernel
theorem dX11_unlike_57 : decode cX11_unlike 57 = .ok (.iinc 3 1, 3) := by decide +kernel
theorem dX11_unlike_60 : decode cX11_unlike 60 = .ok (.goto (-21), 3) := by decide +kernel
theorem dX11_unlike_63 : decode cX11_unlike 63 = .ok (.iconst 0, 1) := by decide +kernel
theorem dX11_unlike_64 : decode cX11_unlike 64 = .ok (.istore_n 3, 1) := by decide +kernel
theorem dX11_unlike_65 : decode cX11_unlike 65 = .ok (.iconst 0, 1) := by decide +kernel
theorem dX11_unlike_66 : decode cX11_unlike 66 = .ok (.istore 4, 2) := by decide +kernel
theorem dX11_unlike_68 : decode cX11_unlike 68 = .ok (.iload 4, 2) := by decide +kernel
theorem dX11_unlike_70 : decode cX11_unlike 70 = .ok (.aload_n 0, 1) := by decide +kernel
theorem dX11_unlike_71 : decode cX11_unlike 71 = .ok (.getfield 151, 3) := by decide +kernel
theorem dX11_unlike_74 : decode cX11_unlike 74 = .ok (.if_icmp .ge 44, 3) := by decide +kernel
theorem dX11_unlike_77 : decode cX11_unlike 77 = .ok (.aload_n 0, 1) := by decide +kernel
theorem dX11_unlike_78 : decode cX11_unlike 78 = .ok (.getfield 29, 3) := by decide +kernel
theorem dX11_unlike_81 : decode cX11_unlike 81 = .ok (.aload_n 0, 1) := by decide +kernel
theorem dX11_unlike_82 : decode cX11_unlike 82 = .ok (.getfield 87, 3) := by decide +kernel
theorem dX11_unlike_85 : decode cX11_unlike 85 = .ok (.iload 4, 2) := by decide +kernel
theorem dX11_unlike_87 : decode cX11_unlike 87 = .ok (.iaload, 1) := by decide +kernel
theorem dX11_unlike_88 : decode cX11_unlike 88 = .ok (.iaload, 1) := by decide +kernel
theorem dX11_unlike_89 : decode cX11_unlike 89 = .ok (.iconst (-1), 1) := by decide +kernel
theorem dX11_unlike_90 : decode cX11_unlike 90 = .ok (.if_icmp .eq 6, 3) := by decide +kernel
theorem dX11_unlike_93 : decode cX11_unlike 93 = .ok (.goto 19, 3) := by decide +kernel
theorem dX11_unlike_96 : decode cX11_unlike 96 = .ok (.aload_n 0, 1) := by decide +kernel
theorem dX11_unlike_97 : decode cX11_unlike 97 = .ok (.getfield 29, 3) := by decide +kernel
theorem dX11_unlike_100 : decode cX11_unlike 100 = .ok (.aload_n 0, 1) := by decide +kernel
theorem dX11_unlike_101 : decode cX11_unlike 101 = .ok (.getfield 87, 3) := by decide +kernel
theorem dX11_unlike_104 : decode cX11_unlike 104 = .ok (.iload 4, 2) := by decide +kernel
theorem dX11_unlike_106 : decode cX11_unlike 106 = .ok (.iaload, 1) := by decide +kernel
theorem dX11_unlike_107 : decode cX11_unlike 107 = .ok (.iconst 0, 1) := by decide +kernel
theorem dX11_unlike_108 : decode cX11_unlike 108 = .ok (.iastore, 1) := by decide +kernel
theorem dX11_unlike_109 : decode cX11_unlike 109 = .ok (.iinc 3 1, 3) := by decide +kernel
theorem dX11_unlike_112 : decode cX11_unlike 112 = .ok (.iinc 4 1, 3) := by decide +kernel
theorem dX11_unlike_115 : decode cX11_unlike 115 = .ok (.goto (-47), 3) := by decide +kernel
theorem dX11_unlike_118 : decode cX11_unlike 118 = .ok (.iload_n 3, 1) := by decide +kernel
theorem dX11_unlike_119 : decode cX11_unlike 119 = .ok (.ireturn, 1) := by decide +kernel
theorem dX11_redexesOf_0 : decode cX11_redexesOf 0 = .ok (.iconst 0, 1) := by decide +kernel
theorem dX11_redexesOf_1 : decode cX11_redexesOf 1 = .ok (.istore_n 2, 1) := by decide +kernel
theorem dX11_redexesOf_2 : decode cX11_redexesOf 2 = .ok (.iconst 0, 1) := by decide +kernel
theorem dX11_redexesOf_3 : decode cX11_redexesOf 3 = .ok (.istore_n 3, 1) := by decide +kernel
theorem dX11_redexesOf_4 : decode cX11_redexesOf 4 = .ok (.iload_n 3, 1) := by decide +kernel
theorem dX11_redexesOf_5 : decode cX11_redexesOf 5 = .ok (.aload_n 0, 1) := by decide +kernel
theorem dX11_redexesOf_6 : decode cX11_redexesOf 6 = .ok (.getfield 151, 3) := by decide +kernel
theorem dX11_redexesOf_9 : decode cX11_redexesOf 9 = .ok (.if_icmp .ge 39, 3) := by decide +kernel
theorem dX11_redexesOf_12 : decode cX11_redexesOf 12 = .ok (.aload_n 0, 1) := by decide +kernel
theorem dX11_redexesOf_13 : decode cX11_redexesOf 13 = .ok (.iload_n 3, 1) := by decide +kernel
theorem dX11_redexesOf_14 : decode cX11_redexesOf 14 = .ok (.invokevirtual 300, 3) := by decide +kernel
theorem dX11_redexesOf_17 : decode cX11_redexesOf 17 = .ok (.istore 4, 2) := by decide +kernel
theorem dX11_redexesOf_19 : decode cX11_redexesOf 19 = .ok (.iload_n 2, 1) := by decide +kernel
theorem dX11_redexesOf_20 : decode cX11_redexesOf 20 = .ok (.iload 4, 2) := by decide +kernel
theorem dX11_redexesOf_22 : decode cX11_redexesOf 22 = .ok (.ifCond .le 17, 3) := by decide +kernel
theorem dX11_redexesOf_25 : decode cX11_redexesOf 25 = .ok (.iload_n 1, 1) := by decide +kernel
theorem dX11_redexesOf_26 : decode cX11_redexesOf 26 = .ok (.ifCond .eq 9, 3) := by decide +kernel
theorem dX11_redexesOf_29 : decode cX11_redexesOf 29 = .ok (.iload 4, 2) := by decide +kernel
theorem dX11_redexesOf_31 : decode cX11_redexesOf 31 = .ok (.iload_n 1, 1) := by decide +kernel
theorem dX11_redexesOf_32 : decode cX11_redexesOf 32 = .ok (.if_icmp .ne 7, 3) := by decide +kernel
theorem dX11_redexesOf_35 : decode cX11_redexesOf 35 = .ok (.iconst 1, 1) := by decide +kernel
theorem dX11_redexesOf_36 : decode cX11_redexesOf 36 = .ok (.goto 4, 3) := by decide +kernel
theorem dX11_redexesOf_39 : decode cX11_redexesOf 39 = .ok (.iconst 0, 1) := by decide +kernel
theorem dX11_redexesOf_40 : decode cX11_redexesOf 40 = .ok (.iadd, 1) := by decide +kernel
theorem dX11_redexesOf_41 : decode cX11_redexesOf 41 = .ok (.istore_n 2, 1) := by decide +kernel
theorem dX11_redexesOf_42 : decode cX11_redexesOf 42 = .ok (.iinc 3 1, 3) := by decide +kernel
theorem dX11_redexesOf_45 : decode cX11_redexesOf 45 = .ok (.goto (-41), 3) := by decide +kernel
theorem dX11_redexesOf_48 : decode cX11_redexesOf 48 = .ok (.iload_n 2, 1) := by decide +kernel
theorem dX11_redexesOf_49 : decode cX11_redexesOf 49 = .ok (.ireturn, 1) := by decide +kernel
theorem dX11_size_0 : decode cX11_size 0 = .ok (.aload_n 0, 1) := by decide +kernel
theorem dX11_size_1 : decode cX11_size 1 = .ok (.iconst 0, 1) := by decide +kernel
theorem dX11_size_2 : decode cX11_size 2 = .ok (.putfield 1, 3) := by decide +kernel
theorem dX11_size_5 : decode cX11_size 5 = .ok (.iload_n 1, 1) := by decide +kernel
theorem dX11_size_6 : decode cX11_size 6 = .ok (.invokestatic 271, 3) := by decide +kernel
theorem dX11_size_9 : decode cX11_size 9 = .ok (.ifCond .eq 15, 3) := by decide +kernel
theorem dX11_size_12 : decode cX11_size 12 = .ok (.iload_n 2, 1) := by decide +kernel
theorem dX11_size_13 : decode cX11_size 13 = .ok (.i2l, 1) := by decide +kernel
theorem dX11_size_14 : decode cX11_size 14 = .ok (.lconst 0, 1) := by decide +kernel
theorem dX11_size_15 : decode cX11_size 15 = .ok (.ldc2_w 400, 3) := by decide +kernel
theorem dX11_size_18 : decode cX11_size 18 = .ok (.invokestatic 180, 3) := by decide +kernel
theorem dX11_size_21 : decode cX11_size 21 = .ok (.ifCond .ne 6, 3) := by decide +kernel
theorem dX11_size_24 : decode cX11_size 24 = .ok (.bipush (-2), 2) := by decide +kernel
theorem dX11_size_26 : decode cX11_size 26 = .ok (.ireturn, 1) := by decide +kernel
theorem dX11_size_27 : decode cX11_size 27 = .ok (.aload_n 0, 1) := by decide +kernel
theorem dX11_size_28 : decode cX11_size 28 = .ok (.iload_n 1, 1) := by decide +kernel
theorem dX11_size_29 : decode cX11_size 29 = .ok (.invokevirtual 343, 3) := by decide +kernel
theorem dX11_size_32 : decode cX11_size 32 = .ok (.ifCond .eq 6, 3) := by decide +kernel
theorem dX11_size_35 : decode cX11_size 35 = .ok (.bipush (-5), 2) := by decide +kernel
theorem dX11_size_37 : decode cX11_size 37 = .ok (.ireturn, 1) := by decide +kernel
theorem dX11_size_38 : decode cX11_size 38 = .ok (.aload_n 0, 1) := by decide +kernel
theorem dX11_size_39 : decode cX11_size 39 = .ok (.iload_n 1, 1) := by decide +kernel
theorem dX11_size_40 : decode cX11_size 40 = .ok (.invokevirtual 346, 3) := by decide +kernel
theorem dX11_size_43 : decode cX11_size 43 = .ok (.iload_n 2, 1) := by decide +kernel
theorem dX11_size_44 : decode cX11_size 44 = .ok (.tableswitch 139 0 5 #[40, 45, 50, 110, 116, 122], 40) := by decide +kernel
theorem dX11_size_84 : decode cX11_size 84 = .ok (.aload_n 0, 1) := by decide +kernel
theorem dX11_size_85 : decode cX11_size 85 = .ok (.getfield 151, 3) := by decide +kernel
theorem dX11_size_88 : decode cX11_size 88 = .ok (.ireturn, 1) := by decide +kernel
theorem dX11_size_89 : decode cX11_size 89 = .ok (.aload_n 0, 1) := by decide +kernel
theorem dX11_size_90 : decode cX11_size 90 = .ok (.invokevirtual 402, 3) := by decide +kernel
theorem dX11_size_93 : decode cX11_size 93 = .ok (.ireturn, 1) := by decide +kernel
theorem dX11_size_94 : decode cX11_size 94 = .ok (.iconst 0, 1) := by decide +kernel
theorem dX11_size_95 : decode cX11_size 95 = .ok (.istore_n 3, 1) := by decide +kernel
theorem dX11_size_96 : decode cX11_size 96 = .ok (.iconst 0, 1) := by decide +kernel
theorem dX11_size_97 : decode cX11_size 97 = .ok (.istore 4, 2) := by decide +kernel
theorem dX11_size_99 : decode cX11_size 99 = .ok (.iload 4, 2) := by decide +kernel
theorem dX11_size_101 : decode cX11_size 101 = .ok (.aload_n 0, 1) := by decide +kernel
theorem dX11_size_102 : decode cX11_size 102 = .ok (.getfield 151, 3) := by decide +kernel
theorem dX11_size_105 : decode cX11_size 105 = .ok (.if_icmp .ge 47, 3) := by decide +kernel
theorem dX11_size_108 : decode cX11_size 108 = .ok (.iload_n 3, 1) := by decide +kernel
theorem dX11_size_109 : decode cX11_size 109 = .ok (.aload_n 0, 1) := by decide +kernel
theorem dX11_size_110 : decode cX11_size 110 = .ok (.getfield 59, 3) := by decide +kernel
theorem dX11_size_113 : decode cX11_size 113 = .ok (.iload 4, 2) := by decide +kernel
theorem dX11_size_115 : decode cX11_size 115 = .ok (.iaload, 1) := by decide +kernel
theorem dX11_size_116 : decode cX11_size 116 = .ok (.ifCond .ne 27, 3) := by decide +kernel
theorem dX11_size_119 : decode cX11_size 119 = .ok (.aload_n 0, 1) := by decide +kernel
theorem dX11_size_120 : decode cX11_size 120 = .ok (.getfield 62, 3) := by decide +kernel
theorem dX11_size_123 : decode cX11_size 123 = .ok (.iload 4, 2) := by decide +kernel
theorem dX11_size_125 : decode cX11_size 125 = .ok (.iaload, 1) := by decide +kernel
theorem dX11_size_126 : decode cX11_size 126 = .ok (.ifCond .ge 17, 3) := by decide +kernel
theorem dX11_size_129 : decode cX11_size 129 = .ok (.iconst 1, 1) := by decide +kernel
theorem dX11_size_130 : decode cX11_size 130 = .ok (.iconst (-1), 1) := by decide +kernel
theorem dX11_size_131 : decode cX11_size 131 = .ok (.aload_n 0, 1) := by decide +kernel
theorem dX11_size_132 : decode cX11_size 132 = .ok (.getfield 62, 3) := by decide +kernel
theorem dX11_size_135 : decode cX11_size 135 = .ok (.iload 4, 2) := by decide +kernel
theorem dX11_size_137 : decode cX11_size 137 = .ok (.iaload, 1) := by decide +kernel
theorem dX11_size_138 : decode cX11_size 138 = .ok (.isub, 1) := by decide +kernel
theorem dX11_size_139 : decode cX11_size 139 = .ok (.ishl, 1) := by decide +kernel
theorem dX11_size_140 : decode cX11_size 140 = .ok (.goto 4, 3) := by decide +kernel
theorem dX11_size_143 : decode cX11_size 143 = .ok (.iconst 0, 1) := by decide +kernel
theorem dX11_size_144 : decode cX11_size 144 = .ok (.ior, 1) := by decide +kernel
theorem dX11_size_145 : decode cX11_size 145 = .ok (.istore_n 3, 1) := by decide +kernel
theorem dX11_size_146 : decode cX11_size 146 = .ok (.iinc 4 1, 3) := by decide +kernel
theorem dX11_size_149 : decode cX11_size 149 = .ok (.goto (-50), 3) := by decide +kernel
theorem dX11_size_152 : decode cX11_size 152 = .ok (.iload_n 3, 1) := by decide +kernel
theorem dX11_size_153 : decode cX11_size 153 = .ok (.ireturn, 1) := by decide +kernel
theorem dX11_size_154 : decode cX11_size 154 = .ok (.aload_n 0, 1) := by decide +kernel
theorem dX11_size_155 : decode cX11_size 155 = .ok (.iconst 0, 1) := by decide +kernel
theorem dX11_size_156 : decode cX11_size 156 = .ok (.invokevirtual 405, 3) := by decide +kernel
theorem dX11_size_159 : decode cX11_size 159 = .ok (.ireturn, 1) := by decide +kernel
theorem dX11_size_160 : decode cX11_size 160 = .ok (.aload_n 0, 1) := by decide +kernel
theorem dX11_size_161 : decode cX11_size 161 = .ok (.iconst 1, 1) := by decide +kernel
theorem dX11_size_162 : decode cX11_size 162 = .ok (.invokevirtual 405, 3) := by decide +kernel
theorem dX11_size_165 : decode cX11_size 165 = .ok (.ireturn, 1) := by decide +kernel
theorem dX11_size_166 : decode cX11_size 166 = .ok (.aload_n 0, 1) := by decide +kernel
theorem dX11_size_167 : decode cX11_size 167 = .ok (.invokevirtual 331, 3) := by decide +kernel
theorem dX11_size_170 : decode cX11_size 170 = .ok (.aload_n 0, 1) := by decide +kernel
theorem dX11_size_171 : decode cX11_size 171 = .ok (.getfield 134, 3) := by decide +kernel
theorem dX11_size_174 : decode cX11_size 174 = .ok (.if_icmp .ne 7, 3) := by decide +kernel
theorem dX11_size_177 : decode cX11_size 177 = .ok (.iconst 1, 1) := by decide +kernel
theorem dX11_size_178 : decode cX11_size 178 = .ok (.goto 4, 3) := by decide +kernel
theorem dX11_size_181 : decode cX11_size 181 = .ok (.iconst 0, 1) := by decide +kernel
theorem dX11_size_182 : decode cX11_size 182 = .ok (.ireturn, 1) := by decide +kernel
theorem dX11_size_183 : decode cX11_size 183 = .ok (.aload_n 0, 1) := by decide +kernel
theorem dX11_size_184 : decode cX11_size 184 = .ok (.invokevirtual 328, 3) := by decide +kernel
theorem dX11_size_187 : decode cX11_size 187 = .ok (.iconst (-1), 1) := by decide +kernel
theorem dX11_size_188 : decode cX11_size 188 = .ok (.if_icmp .ne 7, 3) := by decide +kernel
theorem dX11_size_191 : decode cX11_size 191 = .ok (.iconst 1, 1) := by decide +kernel
theorem dX11_size_192 : decode cX11_size 192 = .ok (.goto 4, 3) := by decide +kernel
theorem dX11_size_195 : decode cX11_size 195 = .ok (.iconst 0, 1) := by decide +kernel
theorem dX11_size_196 : decode cX11_size 196 = .ok (.ireturn, 1) := by decide +kernel
theorem dX11_redexes_0 : decode cX11_redexes 0 = .ok (.aload_n 0, 1) := by decide +kernel
theorem dX11_redexes_1 : decode cX11_redexes 1 = .ok (.iconst 0, 1) := by decide +kernel
theorem dX11_redexes_2 : decode cX11_redexes 2 = .ok (.putfield 1, 3) := by decide +kernel
theorem dX11_redexes_5 : decode cX11_redexes 5 = .ok (.iload_n 1, 1) := by decide +kernel
theorem dX11_redexes_6 : decode cX11_redexes 6 = .ok (.invokestatic 271, 3) := by decide +kernel
theorem dX11_redexes_9 : decode cX11_redexes 9 = .ok (.ifCond .eq 15, 3) := by decide +kernel
theorem dX11_redexes_12 : decode cX11_redexes 12 = .ok (.iload_n 2, 1) := by decide +kernel
theorem dX11_redexes_13 : decode cX11_redexes 13 = .ok (.i2l, 1) := by decide +kernel
theorem dX11_redexes_14 : decode cX11_redexes 14 = .ok (.lconst 0, 1) := by decide +kernel
theorem dX11_redexes_15 : decode cX11_redexes 15 = .ok (.ldc2_w 409, 3) := by decide +kernel
theorem dX11_redexes_18 : decode cX11_redexes 18 = .ok (.invokestatic 180, 3) := by decide +kernel
theorem dX11_redexes_21 : decode cX11_redexes 21 = .ok (.ifCond .ne 6, 3) := by decide +kernel
theorem dX11_redexes_24 : decode cX11_redexes 24 = .ok (.bipush (-2), 2) := by decide +kernel
theorem dX11_redexes_26 : decode cX11_redexes 26 = .ok (.ireturn, 1) := by decide +kernel
theorem dX11_redexes_27 : decode cX11_redexes 27 = .ok (.aload_n 0, 1) := by decide +kernel
theorem dX11_redexes_28 : decode cX11_redexes 28 = .ok (.iload_n 1, 1) := by decide +kernel
theorem dX11_redexes_29 : decode cX11_redexes 29 = .ok (.invokevirtual 343, 3) := by decide +kernel
theorem dX11_redexes_32 : decode cX11_redexes 32 = .ok (.ifCond .eq 6, 3) := by decide +kernel
theorem dX11_redexes_35 : decode cX11_redexes 35 = .ok (.bipush (-5), 2) := by decide +kernel
theorem dX11_redexes_37 : decode cX11_redexes 37 = .ok (.ireturn, 1) := by decide +kernel
theorem dX11_redexes_38 : decode cX11_redexes 38 = .ok (.aload_n 0, 1) := by decide +kernel
theorem dX11_redexes_39 : decode cX11_redexes 39 = .ok (.iload_n 1, 1) := by decide +kernel
theorem dX11_redexes_40 : decode cX11_redexes 40 = .ok (.invokevirtual 346, 3) := by decide +kernel
theorem dX11_redexes_43 : decode cX11_redexes 43 = .ok (.aload_n 0, 1) := by decide +kernel
theorem dX11_redexes_44 : decode cX11_redexes 44 = .ok (.iload_n 2, 1) := by decide +kernel
theorem dX11_redexes_45 : decode cX11_redexes 45 = .ok (.invokevirtual 411, 3) := by decide +kernel
theorem dX11_redexes_48 : decode cX11_redexes 48 = .ok (.ireturn, 1) := by decide +kernel
theorem dX11_line0_0 : decode cX11_line0 0 = .ok (.aload_n 0, 1) := by decide +kernel
theorem dX11_line0_1 : decode cX11_line0 1 = .ok (.getfield 102, 3) := by decide +kernel
theorem dX11_line0_4 : decode cX11_line0 4 = .ok (.aload_n 0, 1) := by decide +kernel
theorem dX11_line0_5 : decode cX11_line0 5 = .ok (.getfield 414, 3) := by decide +kernel
theorem dX11_line0_8 : decode cX11_line0 8 = .ok (.iload_n 1, 1) := by decide +kernel
theorem dX11_line0_9 : decode cX11_line0 9 = .ok (.iastore, 1) := by decide +kernel
theorem dX11_line0_10 : decode cX11_line0 10 = .ok (.aload_n 0, 1) := by decide +kernel
theorem dX11_line0_11 : decode cX11_line0 11 = .ok (.getfield 105, 3) := by decide +kernel
theorem dX11_line0_14 : decode cX11_line0 14 = .ok (.aload_n 0, 1) := by decide +kernel
theorem dX11_line0_15 : decode cX11_line0 15 = .ok (.getfield 414, 3) := by decide +kernel
theorem dX11_line0_18 : decode cX11_line0 18 = .ok (.iload_n 2, 1) := by decide +kernel
theorem dX11_line0_19 : decode cX11_line0 19 = .ok (.iastore, 1) := by decide +kernel
theorem dX11_line0_20 : decode cX11_line0 20 = .ok (.aload_n 0, 1) := by decide +kernel
theorem dX11_line0_21 : decode cX11_line0 21 = .ok (.getfield 111, 3) := by decide +kernel
theorem dX11_line0_24 : decode cX11_line0 24 = .ok (.aload_n 0, 1) := by decide +kernel
theorem dX11_line0_25 : decode cX11_line0 25 = .ok (.getfield 414, 3) := by decide +kernel
theorem dX11_line0_28 : decode cX11_line0 28 = .ok (.iload_n 3, 1) := by decide +kernel
theorem dX11_line0_29 : decode cX11_line0 29 = .ok (.iastore, 1) := by decide +kernel
theorem dX11_line0_30 : decode cX11_line0 30 = .ok (.iconst 0, 1) := by decide +kernel
theorem dX11_line0_31 : decode cX11_line0 31 = .ok (.istore 4, 2) := by decide +kernel
theorem dX11_line0_33 : decode cX11_line0 33 = .ok (.iload 4, 2) := by decide +kernel
theorem dX11_line0_35 : decode cX11_line0 35 = .ok (.iconst 3, 1) := by decide +kernel
theorem dX11_line0_36 : decode cX11_line0 36 = .ok (.if_icmp .ge 24, 3) := by decide +kernel
theorem dX11_line0_39 : decode cX11_line0 39 = .ok (.aload_n 0, 1) := by decide +kernel
theorem dX11_line0_40 : decode cX11_line0 40 = .ok (.getfield 108, 3) := by decide +kernel
theorem dX11_line0_43 : decode cX11_line0 43 = .ok (.iconst 3, 1) := by decide +kernel
theorem dX11_line0_44 : decode cX11_line0 44 = .ok (.aload_n 0, 1) := by decide +kernel
theorem dX11_line0_45 : decode cX11_line0 45 = .ok (.getfield 414, 3) := by decide +kernel
theorem dX11_line0_48 : decode cX11_line0 48 = .ok (.imul, 1) := by decide +kernel
theorem dX11_line0_49 : decode cX11_line0 49 = .ok (.iload 4, 2) := by decide +kernel
theorem dX11_line0_51 : decode cX11_line0 51 = .ok (.iadd, 1) := by decide +kernel
theorem dX11_line0_52 : decode cX11_line0 52 = .ok (.iconst (-1), 1) := by decide +kernel
theorem dX11_line0_53 : decode cX11_line0 53 = .ok (.iastore, 1) := by decide +kernel
theorem dX11_line0_54 : decode cX11_line0 54 = .ok (.iinc 4 1, 3) := by decide +kernel
theorem dX11_line0_57 : decode cX11_line0 57 = .ok (.goto (-24), 3) := by decide +kernel
theorem dX11_line0_60 : decode cX11_line0 60 = .ok (.aload_n 0, 1) := by decide +kernel
theorem dX11_line0_61 : decode cX11_line0 61 = .ok (.dup, 1) := by decide +kernel
theorem dX11_line0_62 : decode cX11_line0 62 = .ok (.getfield 414, 3) := by decide +kernel
theorem dX11_line0_65 : decode cX11_line0 65 = .ok (.iconst 1, 1) := by decide +kernel
theorem dX11_line0_66 : decode cX11_line0 66 = .ok (.iadd, 1) := by decide +kernel
theorem dX11_line0_67 : decode cX11_line0 67 = .ok (.putfield 414, 3) := by decide +kernel
theorem dX11_line0_70 : decode cX11_line0 70 = .ok (.aload_n 0, 1) := by decide +kernel
theorem dX11_line0_71 : decode cX11_line0 71 = .ok (.getfield 414, 3) := by decide +kernel
theorem dX11_line0_74 : decode cX11_line0 74 = .ok (.iconst 1, 1) := by decide +kernel
theorem dX11_line0_75 : decode cX11_line0 75 = .ok (.isub, 1) := by decide +kernel
theorem dX11_line0_76 : decode cX11_line0 76 = .ok (.ireturn, 1) := by decide +kernel
theorem dX11_laysLines_0 : decode cX11_laysLines 0 = .ok (.aload_n 0, 1) := by decide +kernel
theorem dX11_laysLines_1 : decode cX11_laysLines 1 = .ok (.iload_n 1, 1) := by decide +kernel
theorem dX11_laysLines_2 : decode cX11_laysLines 2 = .ok (.invokevirtual 346, 3) := by decide +kernel
theorem dX11_laysLines_5 : decode cX11_laysLines 5 = .ok (.aload_n 0, 1) := by decide +kernel
theorem dX11_laysLines_6 : decode cX11_laysLines 6 = .ok (.invokevirtual 331, 3) := by decide +kernel
theorem dX11_laysLines_9 : decode cX11_laysLines 9 = .ok (.istore_n 2, 1) := by decide +kernel
theorem dX11_laysLines_10 : decode cX11_laysLines 10 = .ok (.aload_n 0, 1) := by decide +kernel
theorem dX11_laysLines_11 : decode cX11_laysLines 11 = .ok (.iconst 0, 1) := by decide +kernel
theorem dX11_laysLines_12 : decode cX11_laysLines 12 = .ok (.putfield 414, 3) := by decide +kernel
theorem dX11_laysLines_15 : decode cX11_laysLines 15 = .ok (.iconst 0, 1) := by decide +kernel
theorem dX11_laysLines_16 : decode cX11_laysLines 16 = .ok (.istore_n 3, 1) := by decide +kernel
theorem dX11_laysLines_17 : decode cX11_laysLines 17 = .ok (.iload_n 3, 1) := by decide +kernel
theorem dX11_laysLines_18 : decode cX11_laysLines 18 = .ok (.aload_n 0, 1) := by decide +kernel
theorem dX11_laysLines_19 : decode cX11_laysLines 19 = .ok (.getfield 144, 3) := by decide +kernel
theorem dX11_laysLines_22 : decode cX11_laysLines 22 = .ok (.if_icmp .ge 23, 3) := by decide +kernel
theorem dX11_laysLines_25 : decode cX11_laysLines 25 = .ok (.aload_n 0, 1) := by decide +kernel
theorem dX11_laysLines_26 : decode cX11_laysLines 26 = .ok (.iconst 0, 1) := by decide +kernel
theorem dX11_laysLines_27 : decode cX11_laysLines 27 = .ok (.aload_n 0, 1) := by decide +kernel
theorem dX11_laysLines_28 : decode cX11_laysLines 28 = .ok (.getfield 38, 3) := by decide +kernel
theorem dX11_laysLines_31 : decode cX11_laysLines 31 = .ok (.iload_n 3, 1) := by decide +kernel
theorem dX11_laysLines_32 : decode cX11_laysLines 32 = .ok (.iaload, 1) := by decide +kernel
theorem dX11_laysLines_33 : decode cX11_laysLines 33 = .ok (.iconst 0, 1) := by decide +kernel
theorem dX11_laysLines_34 : decode cX11_laysLines 34 = .ok (.invokevirtual 417, 3) := by decide +kernel
theorem dX11_laysLines_37 : decode cX11_laysLines 37 = .ok (.istore 4, 2) := by decide +kernel
theorem dX11_laysLines_39 : decode cX11_laysLines 39 = .ok (.iinc 3 1, 3) := by decide +kernel
theorem dX11_laysLines_42 : decode cX11_laysLines 42 = .ok (.goto (-25), 3) := by decide +kernel
theorem dX11_laysLines_45 : decode cX11_laysLines 45 = .ok (.aload_n 0, 1) := by decide +kernel
theorem dX11_laysLines_46 : decode cX11_laysLines 46 = .ok (.iconst 0, 1) := by decide +kernel
theorem dX11_laysLines_47 : decode cX11_laysLines 47 = .ok (.putfield 283, 3) := by decide +kernel
theorem dX11_laysLines_50 : decode cX11_laysLines 50 = .ok (.aload_n 0, 1) := by decide +kernel
theorem dX11_laysLines_51 : decode cX11_laysLines 51 = .ok (.iconst 0, 1) := by decide +kernel
theorem dX11_laysLines_52 : decode cX11_laysLines 52 = .ok (.invokevirtual 420, 3) := by decide +kernel
theorem dX11_laysLines_55 : decode cX11_laysLines 55 = .ok (.istore_n 3, 1) := by decide +kernel
theorem dX11_laysLines_56 : decode cX11_laysLines 56 = .ok (.return_, 1) := by decide +kernel
theorem dX11_linesFrom_0 : decode cX11_linesFrom 0 = .ok (.aload_n 0, 1) := by decide +kernel
theorem dX11_linesFrom_1 : decode cX11_linesFrom 1 = .ok (.getfield 283, 3) := by decide +kernel
theorem dX11_linesFrom_4 : decode cX11_linesFrom 4 = .ok (.istore_n 2, 1) := by decide +kernel
theorem dX11_linesFrom_5 : decode cX11_linesFrom 5 = .ok (.aload_n 0, 1) := by decide +kernel
theorem dX11_linesFrom_6 : decode cX11_linesFrom 6 = .ok (.dup, 1) := by decide +kernel
theorem dX11_linesFrom_7 : decode cX11_linesFrom 7 = .ok (.getfield 283, 3) := by decide +kernel
theorem dX11_linesFrom_10 : decode cX11_linesFrom 10 = .ok (.iconst 1, 1) := by decide +kernel
theorem dX11_linesFrom_11 : decode cX11_linesFrom 11 = .ok (.iadd, 1) := by decide +kernel
theorem dX11_linesFrom_12 : decode cX11_linesFrom 12 = .ok (.putfield 283, 3) := by decide +kernel
theorem dX11_linesFrom_15 : decode cX11_linesFrom 15 = .ok (.aload_n 0, 1) := by decide +kernel
theorem dX11_linesFrom_16 : decode cX11_linesFrom 16 = .ok (.getfield 59, 3) := by decide +kernel
theorem dX11_linesFrom_19 : decode cX11_linesFrom 19 = .ok (.iload_n 2, 1) := by decide +kernel
theorem dX11_linesFrom_20 : decode cX11_linesFrom 20 = .ok (.iaload, 1) := by decide +kernel
theorem dX11_linesFrom_21 : decode cX11_linesFrom 21 = .ok (.istore_n 3, 1) := by decide +kernel
theorem dX11_linesFrom_22 : decode cX11_linesFrom 22 = .ok (.iload_n 3, 1) := by decide +kernel
theorem dX11_linesFrom_23 : decode cX11_linesFrom 23 = .ok (.ifCond .ne 35, 3) := by decide +kernel
theorem dX11_linesFrom_26 : decode cX11_linesFrom 26 = .ok (.aload_n 0, 1) := by decide +kernel
theorem dX11_linesFrom_27 : decode cX11_linesFrom 27 = .ok (.getfield 62, 3) := by decide +kernel
theorem dX11_linesFrom_30 : decode cX11_linesFrom 30 = .ok (.iload_n 2, 1) := by decide +kernel
theorem dX11_linesFrom_31 : decode cX11_linesFrom 31 = .ok (.iaload, 1) := by decide +kernel
theorem dX11_linesFrom_32 : decode cX11_linesFrom 32 = .ok (.ifCond .ge 14, 3) := by decide +kernel
theorem dX11_linesFrom_35 : decode cX11_linesFrom 35 = .ok (.iconst (-1), 1) := by decide +kernel
theorem dX11_linesFrom_36 : decode cX11_linesFrom 36 = .ok (.aload_n 0, 1) := by decide +kernel
theorem dX11_linesFrom_37 : decode cX11_linesFrom 37 = .ok (.getfield 62, 3) := by decide +kernel
theorem dX11_linesFrom_40 : decode cX11_linesFrom 40 = .ok (.iload_n 2, 1) := by decide +kernel
theorem dX11_linesFrom_41 : decode cX11_linesFrom 41 = .ok (.iaload, 1) := by decide +kernel
theorem dX11_linesFrom_42 : decode cX11_linesFrom 42 = .ok (.isub, 1) := by decide +kernel
theorem dX11_linesFrom_43 : decode cX11_linesFrom 43 = .ok (.goto 14, 3) := by decide +kernel
theorem dX11_linesFrom_46 : decode cX11_linesFrom 46 = .ok (.aload_n 0, 1) := by decide +kernel
theorem dX11_linesFrom_47 : decode cX11_linesFrom 47 = .ok (.getfield 114, 3) := by decide +kernel
theorem dX11_linesFrom_50 : decode cX11_linesFrom 50 = .ok (.aload_n 0, 1) := by decide +kernel
theorem dX11_linesFrom_51 : decode cX11_linesFrom 51 = .ok (.getfield 62, 3) := by decide +kernel
theorem dX11_linesFrom_54 : decode cX11_linesFrom 54 = .ok (.iload_n 2, 1) := by decide +kernel
theorem dX11_linesFrom_55 : decode cX11_linesFrom 55 = .ok (.iaload, 1) := by decide +kernel
theorem dX11_linesFrom_56 : decode cX11_linesFrom 56 = .ok (.iaload, 1) := by decide +kernel
theorem dX11_linesFrom_57 : decode cX11_linesFrom 57 = .ok (.ireturn, 1) := by decide +kernel
theorem dX11_linesFrom_58 : decode cX11_linesFrom 58 = .ok (.iconst (-1), 1) := by decide +kernel
theorem dX11_linesFrom_59 : decode cX11_linesFrom 59 = .ok (.istore 5, 2) := by decide +kernel
theorem dX11_linesFrom_61 : decode cX11_linesFrom 61 = .ok (.iconst (-1), 1) := by decide +kernel
theorem dX11_linesFrom_62 : decode cX11_linesFrom 62 = .ok (.istore 6, 2) := by decide +kernel
theorem dX11_linesFrom_64 : decode cX11_linesFrom 64 = .ok (.iload_n 3, 1) := by decide +kernel
theorem dX11_linesFrom_65 : decode cX11_linesFrom 65 = .ok (.iconst 1, 1) := by decide +kernel
theorem dX11_linesFrom_66 : decode cX11_linesFrom 66 = .ok (.if_icmp .ne 43, 3) := by decide +kernel
theorem dX11_linesFrom_69 : decode cX11_linesFrom 69 = .ok (.aload_n 0, 1) := by decide +kernel
theorem dX11_linesFrom_70 : decode cX11_linesFrom 70 = .ok (.getfield 114, 3) := by decide +kernel
theorem dX11_linesFrom_73 : decode cX11_linesFrom 73 = .ok (.iload_n 1, 1) := by decide +kernel
theorem dX11_linesFrom_74 : decode cX11_linesFrom 74 = .ok (.aload_n 0, 1) := by decide +kernel
theorem dX11_linesFrom_75 : decode cX11_linesFrom 75 = .ok (.iconst 1, 1) := by decide +kernel
theorem dX11_linesFrom_76 : decode cX11_linesFrom 76 = .ok (.aload_n 0, 1) := by decide +kernel
theorem dX11_linesFrom_77 : decode cX11_linesFrom 77 = .ok (.getfield 62, 3) := by decide +kernel
theorem dX11_linesFrom_80 : decode cX11_linesFrom 80 = .ok (.iload_n 2, 1) := by decide +kernel
theorem dX11_linesFrom_81 : decode cX11_linesFrom 81 = .ok (.iaload, 1) := by decide +kernel
theorem dX11_linesFrom_82 : decode cX11_linesFrom 82 = .ok (.iload_n 1, 1) := by decide +kernel
theorem dX11_linesFrom_83 : decode cX11_linesFrom 83 = .ok (.iconst 1, 1) := by decide +kernel
theorem dX11_linesFrom_84 : decode cX11_linesFrom 84 = .ok (.iadd, 1) := by decide +kernel
theorem dX11_linesFrom_85 : decode cX11_linesFrom 85 = .ok (.invokevirtual 417, 3) := by decide +kernel
theorem dX11_linesFrom_88 : decode cX11_linesFrom 88 = .ok (.iastore, 1) := by decide +kernel
theorem dX11_linesFrom_89 : decode cX11_linesFrom 89 = .ok (.aload_n 0, 1) := by decide +kernel
theorem dX11_linesFrom_90 : decode cX11_linesFrom 90 = .ok (.getfield 114, 3) := by decide +kernel
theorem dX11_linesFrom_93 : decode cX11_linesFrom 93 = .ok (.iload_n 1, 1) := by decide +kernel
theorem dX11_linesFrom_94 : decode cX11_linesFrom 94 = .ok (.iaload, 1) := by decide +kernel
theorem dX11_linesFrom_95 : decode cX11_linesFrom 95 = .ok (.istore 4, 2) := by decide +kernel
theorem dX11_linesFrom_97 : decode cX11_linesFrom 97 = .ok (.aload_n 0, 1) := by decide +kernel
theorem dX11_linesFrom_98 : decode cX11_linesFrom 98 = .ok (.iload_n 1, 1) := by decide +kernel
theorem dX11_linesFrom_99 : decode cX11_linesFrom 99 = .ok (.iconst 1, 1) := by decide +kernel
theorem dX11_linesFrom_100 : decode cX11_linesFrom 100 = .ok (.iadd, 1) := by decide +kernel
theorem dX11_linesFrom_101 : decode cX11_linesFrom 101 = .ok (.invokevirtual 420, 3) := by decide +kernel
theorem dX11_linesFrom_104 : decode cX11_linesFrom 104 = .ok (.istore 5, 2) := by decide +kernel
theorem dX11_linesFrom_106 : decode cX11_linesFrom 106 = .ok (.goto 104, 3) := by decide +kernel
theorem dX11_linesFrom_109 : decode cX11_linesFrom 109 = .ok (.aload_n 0, 1) := by decide +kernel
theorem dX11_linesFrom_110 : decode cX11_linesFrom 110 = .ok (.getfield 87, 3) := by decide +kernel
theorem dX11_linesFrom_113 : decode cX11_linesFrom 113 = .ok (.aload_n 0, 1) := by decide +kernel
theorem dX11_linesFrom_114 : decode cX11_linesFrom 114 = .ok (.getfield 283, 3) := by decide +kernel
theorem dX11_linesFrom_117 : decode cX11_linesFrom 117 = .ok (.iaload, 1) := by decide +kernel
theorem dX11_linesFrom_118 : decode cX11_linesFrom 118 = .ok (.istore 7, 2) := by decide +kernel
theorem dX11_linesFrom_120 : decode cX11_linesFrom 120 = .ok (.aload_n 0, 1) := by decide +kernel
theorem dX11_linesFrom_121 : decode cX11_linesFrom 121 = .ok (.iload_n 1, 1) := by decide +kernel
theorem dX11_linesFrom_122 : decode cX11_linesFrom 122 = .ok (.invokevirtual 420, 3) := by decide +kernel
theorem dX11_linesFrom_125 : decode cX11_linesFrom 125 = .ok (.istore 4, 2) := by decide +kernel
theorem dX11_linesFrom_127 : decode cX11_linesFrom 127 = .ok (.iload_n 3, 1) := by decide +kernel
theorem dX11_linesFrom_128 : decode cX11_linesFrom 128 = .ok (.iconst 2, 1) := by decide +kernel
theorem dX11_linesFrom_129 : decode cX11_linesFrom 129 = .ok (.if_icmp .eq 8, 3) := by decide +kernel
theorem dX11_linesFrom_132 : decode cX11_linesFrom 132 = .ok (.iload_n 3, 1) := by decide +kernel
theorem dX11_linesFrom_133 : decode cX11_linesFrom 133 = .ok (.iconst 3, 1) := by decide +kernel
theorem dX11_linesFrom_134 : decode cX11_linesFrom 134 = .ok (.if_icmp .ne 10, 3) := by decide +kernel
theorem dX11_linesFrom_137 : decode cX11_linesFrom 137 = .ok (.aload_n 0, 1) := by decide +kernel
theorem dX11_linesFrom_138 : decode cX11_linesFrom 138 = .ok (.iload_n 1, 1) := by decide +kernel
theorem dX11_linesFrom_139 : decode cX11_linesFrom 139 = .ok (.invokevirtual 420, 3) := by decide +kernel
theorem dX11_linesFrom_142 : decode cX11_linesFrom 142 = .ok (.istore 5, 2) := by decide +kernel
theorem dX11_linesFrom_144 : decode cX11_linesFrom 144 = .ok (.iload_n 3, 1) := by decide +kernel
theorem dX11_linesFrom_145 : decode cX11_linesFrom 145 = .ok (.bipush 8, 2) := by decide +kernel
theorem dX11_linesFrom_147 : decode cX11_linesFrom 147 = .ok (.if_icmp .ne 63, 3) := by decide +kernel
theorem dX11_linesFrom_150 : decode cX11_linesFrom 150 = .ok (.aload_n 0, 1) := by decide +kernel
theorem dX11_linesFrom_151 : decode cX11_linesFrom 151 = .ok (.getfield 114, 3) := by decide +kernel
theorem dX11_linesFrom_154 : decode cX11_linesFrom 154 = .ok (.iload_n 1, 1) := by decide +kernel
theorem dX11_linesFrom_155 : decode cX11_linesFrom 155 = .ok (.aload_n 0, 1) := by decide +kernel
theorem dX11_linesFrom_156 : decode cX11_linesFrom 156 = .ok (.iconst 1, 1) := by decide +kernel
theorem dX11_linesFrom_157 : decode cX11_linesFrom 157 = .ok (.aload_n 0, 1) := by decide +kernel
theorem dX11_linesFrom_158 : decode cX11_linesFrom 158 = .ok (.getfield 17, 3) := by decide +kernel
theorem dX11_linesFrom_161 : decode cX11_linesFrom 161 = .ok (.iload 7, 2) := by decide +kernel
theorem dX11_linesFrom_163 : decode cX11_linesFrom 163 = .ok (.iaload, 1) := by decide +kernel
theorem dX11_linesFrom_164 : decode cX11_linesFrom 164 = .ok (.iload_n 1, 1) := by decide +kernel
theorem dX11_linesFrom_165 : decode cX11_linesFrom 165 = .ok (.iconst 1, 1) := by decide +kernel
theorem dX11_linesFrom_166 : decode cX11_linesFrom 166 = .ok (.iadd, 1) := by decide +kernel
theorem dX11_linesFrom_167 : decode cX11_linesFrom 167 = .ok (.invokevirtual 417, 3) := by decide +kernel
theorem dX11_linesFrom_170 : decode cX11_linesFrom 170 = .ok (.iastore, 1) := by decide +kernel
theorem dX11_linesFrom_171 : decode cX11_linesFrom 171 = .ok (.aload_n 0, 1) := by decide +kernel
theorem dX11_linesFrom_172 : decode cX11_linesFrom 172 = .ok (.iload_n 1, 1) := by decide +kernel
theorem dX11_linesFrom_173 : decode cX11_linesFrom 173 = .ok (.iconst 1, 1) := by decide +kernel
theorem dX11_linesFrom_174 : decode cX11_linesFrom 174 = .ok (.iadd, 1) := by decide +kernel
theorem dX11_linesFrom_175 : decode cX11_linesFrom 175 = .ok (.invokevirtual 420, 3) := by decide +kernel
theorem dX11_linesFrom_178 : decode cX11_linesFrom 178 = .ok (.istore 5, 2) := by decide +kernel
theorem dX11_linesFrom_180 : decode cX11_linesFrom 180 = .ok (.aload_n 0, 1) := by decide +kernel
theorem dX11_linesFrom_181 : decode cX11_linesFrom 181 = .ok (.getfield 114, 3) := by decide +kernel
theorem dX11_linesFrom_184 : decode cX11_linesFrom 184 = .ok (.iload_n 1, 1) := by decide +kernel
theorem dX11_linesFrom_185 : decode cX11_linesFrom 185 = .ok (.aload_n 0, 1) := by decide +kernel
theorem dX11_linesFrom_186 : decode cX11_linesFrom 186 = .ok (.iconst 1, 1) := by decide +kernel
theorem dX11_linesFrom_187 : decode cX11_linesFrom 187 = .ok (.aload_n 0, 1) := by decide +kernel
theorem dX11_linesFrom_188 : decode cX11_linesFrom 188 = .ok (.getfield 20, 3) := by decide +kernel
theorem dX11_linesFrom_191 : decode cX11_linesFrom 191 = .ok (.iload 7, 2) := by decide +kernel
theorem dX11_linesFrom_193 : decode cX11_linesFrom 193 = .ok (.iaload, 1) := by decide +kernel
theorem dX11_linesFrom_194 : decode cX11_linesFrom 194 = .ok (.iload_n 1, 1) := by decide +kernel
theorem dX11_linesFrom_195 : decode cX11_linesFrom 195 = .ok (.iconst 1, 1) := by decide +kernel
theorem dX11_linesFrom_196 : decode cX11_linesFrom 196 = .ok (.iadd, 1) := by decide +kernel
theorem dX11_linesFrom_197 : decode cX11_linesFrom 197 = .ok (.invokevirtual 417, 3) := by decide +kernel
theorem dX11_linesFrom_200 : decode cX11_linesFrom 200 = .ok (.iastore, 1) := by decide +kernel
theorem dX11_linesFrom_201 : decode cX11_linesFrom 201 = .ok (.aload_n 0, 1) := by decide +kernel
theorem dX11_linesFrom_202 : decode cX11_linesFrom 202 = .ok (.iload_n 1, 1) := by decide +kernel
theorem dX11_linesFrom_203 : decode cX11_linesFrom 203 = .ok (.iconst 1, 1) := by decide +kernel
theorem dX11_linesFrom_204 : decode cX11_linesFrom 204 = .ok (.iadd, 1) := by decide +kernel
theorem dX11_linesFrom_205 : decode cX11_linesFrom 205 = .ok (.invokevirtual 420, 3) := by decide +kernel
theorem dX11_linesFrom_208 : decode cX11_linesFrom 208 = .ok (.istore 6, 2) := by decide +kernel
theorem dX11_linesFrom_210 : decode cX11_linesFrom 210 = .ok (.aload_n 0, 1) := by decide +kernel
theorem dX11_linesFrom_211 : decode cX11_linesFrom 211 = .ok (.iload_n 3, 1) := by decide +kernel
theorem dX11_linesFrom_212 : decode cX11_linesFrom 212 = .ok (.iconst 1, 1) := by decide +kernel
theorem dX11_linesFrom_213 : decode cX11_linesFrom 213 = .ok (.isub, 1) := by decide +kernel
theorem dX11_linesFrom_214 : decode cX11_linesFrom 214 = .ok (.iconst 2, 1) := by decide +kernel
theorem dX11_linesFrom_215 : decode cX11_linesFrom 215 = .ok (.iadd, 1) := by decide +kernel
theorem dX11_linesFrom_216 : decode cX11_linesFrom 216 = .ok (.aload_n 0, 1) := by decide +kernel
theorem dX11_linesFrom_217 : decode cX11_linesFrom 217 = .ok (.getfield 87, 3) := by decide +kernel
theorem dX11_linesFrom_220 : decode cX11_linesFrom 220 = .ok (.iload_n 2, 1) := by decide +kernel
theorem dX11_linesFrom_221 : decode cX11_linesFrom 221 = .ok (.iaload, 1) := by decide +kernel
theorem dX11_linesFrom_222 : decode cX11_linesFrom 222 = .ok (.iload_n 1, 1) := by decide +kernel
theorem dX11_linesFrom_223 : decode cX11_linesFrom 223 = .ok (.invokevirtual 417, 3) := by decide +kernel
theorem dX11_linesFrom_226 : decode cX11_linesFrom 226 = .ok (.istore 7, 2) := by decide +kernel
theorem dX11_linesFrom_228 : decode cX11_linesFrom 228 = .ok (.aload_n 0, 1) := by decide +kernel
theorem dX11_linesFrom_229 : decode cX11_linesFrom 229 = .ok (.getfield 108, 3) := by decide +kernel
theorem dX11_linesFrom_232 : decode cX11_linesFrom 232 = .ok (.iconst 3, 1) := by decide +kernel
theorem dX11_linesFrom_233 : decode cX11_linesFrom 233 = .ok (.iload 7, 2) := by decide +kernel
theorem dX11_linesFrom_235 : decode cX11_linesFrom 235 = .ok (.imul, 1) := by decide +kernel
theorem dX11_linesFrom_236 : decode cX11_linesFrom 236 = .ok (.iload 4, 2) := by decide +kernel
theorem dX11_linesFrom_238 : decode cX11_linesFrom 238 = .ok (.iastore, 1) := by decide +kernel
theorem dX11_linesFrom_239 : decode cX11_linesFrom 239 = .ok (.aload_n 0, 1) := by decide +kernel
theorem dX11_linesFrom_240 : decode cX11_linesFrom 240 = .ok (.getfield 108, 3) := by decide +kernel
theorem dX11_linesFrom_243 : decode cX11_linesFrom 243 = .ok (.iconst 3, 1) := by decide +kernel
theorem dX11_linesFrom_244 : decode cX11_linesFrom 244 = .ok (.iload 7, 2) := by decide +kernel
theorem dX11_linesFrom_246 : decode cX11_linesFrom 246 = .ok (.imul, 1) := by decide +kernel
theorem dX11_linesFrom_247 : decode cX11_linesFrom 247 = .ok (.iconst 1, 1) := by decide +kernel
theorem dX11_linesFrom_248 : decode cX11_linesFrom 248 = .ok (.iadd, 1) := by decide +kernel
theorem dX11_linesFrom_249 : decode cX11_linesFrom 249 = .ok (.iload 5, 2) := by decide +kernel
theorem dX11_linesFrom_251 : decode cX11_linesFrom 251 = .ok (.iastore, 1) := by decide +kernel
theorem dX11_linesFrom_252 : decode cX11_linesFrom 252 = .ok (.aload_n 0, 1) := by decide +kernel
theorem dX11_linesFrom_253 : decode cX11_linesFrom 253 = .ok (.getfield 108, 3) := by decide +kernel
theorem dX11_linesFrom_256 : decode cX11_linesFrom 256 = .ok (.iconst 3, 1) := by decide +kernel
theorem dX11_linesFrom_257 : decode cX11_linesFrom 257 = .ok (.iload 7, 2) := by decide +kernel
theorem dX11_linesFrom_259 : decode cX11_linesFrom 259 = .ok (.imul, 1) := by decide +kernel
theorem dX11_linesFrom_260 : decode cX11_linesFrom 260 = .ok (.iconst 2, 1) := by decide +kernel
theorem dX11_linesFrom_261 : decode cX11_linesFrom 261 = .ok (.iadd, 1) := by decide +kernel
theorem dX11_linesFrom_262 : decode cX11_linesFrom 262 = .ok (.iload 6, 2) := by decide +kernel
theorem dX11_linesFrom_264 : decode cX11_linesFrom 264 = .ok (.iastore, 1) := by decide +kernel
theorem dX11_linesFrom_265 : decode cX11_linesFrom 265 = .ok (.iload 7, 2) := by decide +kernel
theorem dX11_linesFrom_267 : decode cX11_linesFrom 267 = .ok (.ireturn, 1) := by decide +kernel
theorem dX11_lines_0 : decode cX11_lines 0 = .ok (.aload_n 0, 1) := by decide +kernel
theorem dX11_lines_1 : decode cX11_lines 1 = .ok (.iconst 0, 1) := by decide +kernel
theorem dX11_lines_2 : decode cX11_lines 2 = .ok (.putfield 1, 3) := by decide +kernel
theorem dX11_lines_5 : decode cX11_lines 5 = .ok (.iload_n 1, 1) := by decide +kernel
theorem dX11_lines_6 : decode cX11_lines 6 = .ok (.invokestatic 271, 3) := by decide +kernel
theorem dX11_lines_9 : decode cX11_lines 9 = .ok (.ifCond .ne 6, 3) := by decide +kernel
theorem dX11_lines_12 : decode cX11_lines 12 = .ok (.bipush (-2), 2) := by decide +kernel
theorem dX11_lines_14 : decode cX11_lines 14 = .ok (.ireturn, 1) := by decide +kernel
theorem dX11_lines_15 : decode cX11_lines 15 = .ok (.aload_n 0, 1) := by decide +kernel
theorem dX11_lines_16 : decode cX11_lines 16 = .ok (.iload_n 1, 1) := by decide +kernel
theorem dX11_lines_17 : decode cX11_lines 17 = .ok (.invokevirtual 343, 3) := by decide +kernel
theorem dX11_lines_20 : decode cX11_lines 20 = .ok (.ifCond .eq 6, 3) := by decide +kernel
theorem dX11_lines_23 : decode cX11_lines 23 = .ok (.bipush (-5), 2) := by decide +kernel
theorem dX11_lines_25 : decode cX11_lines 25 = .ok (.ireturn, 1) := by decide +kernel
theorem dX11_lines_26 : decode cX11_lines 26 = .ok (.aload_n 0, 1) := by decide +kernel
theorem dX11_lines_27 : decode cX11_lines 27 = .ok (.iload_n 1, 1) := by decide +kernel
theorem dX11_lines_28 : decode cX11_lines 28 = .ok (.invokevirtual 423, 3) := by decide +kernel
theorem dX11_lines_31 : decode cX11_lines 31 = .ok (.aload_n 0, 1) := by decide +kernel
theorem dX11_lines_32 : decode cX11_lines 32 = .ok (.getfield 414, 3) := by decide +kernel
theorem dX11_lines_35 : decode cX11_lines 35 = .ok (.ireturn, 1) := by decide +kernel
theorem dX11_line_0 : decode cX11_line 0 = .ok (.aload_n 0, 1) := by decide +kernel
theorem dX11_line_1 : decode cX11_line 1 = .ok (.iconst 0, 1) := by decide +kernel
theorem dX11_line_2 : decode cX11_line 2 = .ok (.putfield 1, 3) := by decide +kernel
theorem dX11_line_5 : decode cX11_line 5 = .ok (.iload_n 1, 1) := by decide +kernel
theorem dX11_line_6 : decode cX11_line 6 = .ok (.invokestatic 271, 3) := by decide +kernel
theorem dX11_line_9 : decode cX11_line 9 = .ok (.ifCond .ne 6, 3) := by decide +kernel
theorem dX11_line_12 : decode cX11_line 12 = .ok (.bipush (-2), 2) := by decide +kernel
theorem dX11_line_14 : decode cX11_line 14 = .ok (.ireturn, 1) := by decide +kernel
theorem dX11_line_15 : decode cX11_line 15 = .ok (.aload_n 0, 1) := by decide +kernel
theorem dX11_line_16 : decode cX11_line 16 = .ok (.iload_n 1, 1) := by decide +kernel
theorem dX11_line_17 : decode cX11_line 17 = .ok (.invokevirtual 343, 3) := by decide +kernel
theorem dX11_line_20 : decode cX11_line 20 = .ok (.ifCond .eq 6, 3) := by decide +kernel
theorem dX11_line_23 : decode cX11_line 23 = .ok (.bipush (-5), 2) := by decide +kernel
theorem dX11_line_25 : decode cX11_line 25 = .ok (.ireturn, 1) := by decide +kernel
theorem dX11_line_26 : decode cX11_line 26 = .ok (.aload_n 0, 1) := by decide +kernel
theorem dX11_line_27 : decode cX11_line 27 = .ok (.iload_n 1, 1) := by decide +kernel
theorem dX11_line_28 : decode cX11_line 28 = .ok (.invokevirtual 423, 3) := by decide +kernel
theorem dX11_line_31 : decode cX11_line 31 = .ok (.iload_n 2, 1) := by decide +kernel
theorem dX11_line_32 : decode cX11_line 32 = .ok (.i2l, 1) := by decide +kernel
theorem dX11_line_33 : decode cX11_line 33 = .ok (.lconst 0, 1) := by decide +kernel
theorem dX11_line_34 : decode cX11_line 34 = .ok (.aload_n 0, 1) := by decide +kernel
theorem dX11_line_35 : decode cX11_line 35 = .ok (.getfield 414, 3) := by decide +kernel
theorem dX11_line_38 : decode cX11_line 38 = .ok (.iconst 1, 1) := by decide +kernel
theorem dX11_line_39 : decode cX11_line 39 = .ok (.isub, 1) := by decide +kernel
theorem dX11_line_40 : decode cX11_line 40 = .ok (.i2l, 1) := by decide +kernel
theorem dX11_line_41 : decode cX11_line 41 = .ok (.invokestatic 180, 3) := by decide +kernel
theorem dX11_line_44 : decode cX11_line 44 = .ok (.ifCond .eq 15, 3) := by decide +kernel
theorem dX11_line_47 : decode cX11_line 47 = .ok (.iload_n 3, 1) := by decide +kernel
theorem dX11_line_48 : decode cX11_line 48 = .ok (.i2l, 1) := by decide +kernel
theorem dX11_line_49 : decode cX11_line 49 = .ok (.lconst 0, 1) := by decide +kernel
theorem dX11_line_50 : decode cX11_line 50 = .ok (.ldc2_w 219, 3) := by decide +kernel
theorem dX11_line_53 : decode cX11_line 53 = .ok (.invokestatic 180, 3) := by decide +kernel
theorem dX11_line_56 : decode cX11_line 56 = .ok (.ifCond .ne 6, 3) := by decide +kernel
theorem dX11_line_59 : decode cX11_line 59 = .ok (.bipush (-2), 2) := by decide +kernel
theorem dX11_line_61 : decode cX11_line 61 = .ok (.ireturn, 1) := by decide +kernel
theorem dX11_line_62 : decode cX11_line 62 = .ok (.iload_n 3, 1) := by decide +kernel
theorem dX11_line_63 : decode cX11_line 63 = .ok (.ifCond .ne 12, 3) := by decide +kernel
theorem dX11_line_66 : decode cX11_line 66 = .ok (.aload_n 0, 1) := by decide +kernel
theorem dX11_line_67 : decode cX11_line 67 = .ok (.getfield 102, 3) := by decide +kernel
theorem dX11_line_70 : decode cX11_line 70 = .ok (.iload_n 2, 1) := by decide +kernel
theorem dX11_line_71 : decode cX11_line 71 = .ok (.iaload, 1) := by decide +kernel
theorem dX11_line_72 : decode cX11_line 72 = .ok (.goto 29, 3) := by decide +kernel
theorem dX11_line_75 : decode cX11_line 75 = .ok (.iload_n 3, 1) := by decide +kernel
theorem dX11_line_76 : decode cX11_line 76 = .ok (.iconst 4, 1) := by decide +kernel
theorem dX11_line_77 : decode cX11_line 77 = .ok (.if_icmp .ne 12, 3) := by decide +kernel
theorem dX11_line_80 : decode cX11_line 80 = .ok (.aload_n 0, 1) := by decide +kernel
theorem dX11_line_81 : decode cX11_line 81 = .ok (.getfield 111, 3) := by decide +kernel
theorem dX11_line_84 : decode cX11_line 84 = .ok (.iload_n 2, 1) := by decide +kernel
theorem dX11_line_85 : decode cX11_line 85 = .ok (.iaload, 1) := by decide +kernel
theorem dX11_line_86 : decode cX11_line 86 = .ok (.goto 15, 3) := by decide +kernel
theorem dX11_line_89 : decode cX11_line 89 = .ok (.aload_n 0, 1) := by decide +kernel
theorem dX11_line_90 : decode cX11_line 90 = .ok (.getfield 108, 3) := by decide +kernel
theorem dX11_line_93 : decode cX11_line 93 = .ok (.iconst 3, 1) := by decide +kernel
theorem dX11_line_94 : decode cX11_line 94 = .ok (.iload_n 2, 1) := by decide +kernel
theorem dX11_line_95 : decode cX11_line 95 = .ok (.imul, 1) := by decide +kernel
theorem dX11_line_96 : decode cX11_line 96 = .ok (.iload_n 3, 1) := by decide +kernel
theorem dX11_line_97 : decode cX11_line 97 = .ok (.iadd, 1) := by decide +kernel
theorem dX11_line_98 : decode cX11_line 98 = .ok (.iconst 1, 1) := by decide +kernel
theorem dX11_line_99 : decode cX11_line 99 = .ok (.isub, 1) := by decide +kernel
theorem dX11_line_100 : decode cX11_line 100 = .ok (.iaload, 1) := by decide +kernel
theorem dX11_line_101 : decode cX11_line 101 = .ok (.ireturn, 1) := by decide +kernel
theorem dX11_lineByte_0 : decode cX11_lineByte 0 = .ok (.aload_n 0, 1) := by decide +kernel
theorem dX11_lineByte_1 : decode cX11_lineByte 1 = .ok (.iconst 0, 1) := by decide +kernel
theorem dX11_lineByte_2 : decode cX11_lineByte 2 = .ok (.putfield 1, 3) := by decide +kernel
theorem dX11_lineByte_5 : decode cX11_lineByte 5 = .ok (.iload_n 1, 1) := by decide +kernel
theorem dX11_lineByte_6 : decode cX11_lineByte 6 = .ok (.invokestatic 271, 3) := by decide +kernel
theorem dX11_lineByte_9 : decode cX11_lineByte 9 = .ok (.ifCond .ne 6, 3) := by decide +kernel
theorem dX11_lineByte_12 : decode cX11_lineByte 12 = .ok (.bipush (-2), 2) := by decide +kernel
theorem dX11_lineByte_14 : decode cX11_lineByte 14 = .ok (.ireturn, 1) := by decide +kernel
theorem dX11_lineByte_15 : decode cX11_lineByte 15 = .ok (.aload_n 0, 1) := by decide +kernel
theorem dX11_lineByte_16 : decode cX11_lineByte 16 = .ok (.iload_n 1, 1) := by decide +kernel
theorem dX11_lineByte_17 : decode cX11_lineByte 17 = .ok (.invokevirtual 343, 3) := by decide +kernel
theorem dX11_lineByte_20 : decode cX11_lineByte 20 = .ok (.ifCond .eq 6, 3) := by decide +kernel
theorem dX11_lineByte_23 : decode cX11_lineByte 23 = .ok (.bipush (-5), 2) := by decide +kernel
theorem dX11_lineByte_25 : decode cX11_lineByte 25 = .ok (.ireturn, 1) := by decide +kernel
theorem dX11_lineByte_26 : decode cX11_lineByte 26 = .ok (.aload_n 0, 1) := by decide +kernel
theorem dX11_lineByte_27 : decode cX11_lineByte 27 = .ok (.iload_n 1, 1) := by decide +kernel
theorem dX11_lineByte_28 : decode cX11_lineByte 28 = .ok (.invokevirtual 423, 3) := by decide +kernel
theorem dX11_lineByte_31 : decode cX11_lineByte 31 = .ok (.iload_n 2, 1) := by decide +kernel
theorem dX11_lineByte_32 : decode cX11_lineByte 32 = .ok (.i2l, 1) := by decide +kernel
theorem dX11_lineByte_33 : decode cX11_lineByte 33 = .ok (.lconst 0, 1) := by decide +kernel
theorem dX11_lineByte_34 : decode cX11_lineByte 34 = .ok (.aload_n 0, 1) := by decide +kernel
theorem dX11_lineByte_35 : decode cX11_lineByte 35 = .ok (.getfield 414, 3) := by decide +kernel
theorem dX11_lineByte_38 : decode cX11_lineByte 38 = .ok (.iconst 1, 1) := by decide +kernel
theorem dX11_lineByte_39 : decode cX11_lineByte 39 = .ok (.isub, 1) := by decide +kernel
theorem dX11_lineByte_40 : decode cX11_lineByte 40 = .ok (.i2l, 1) := by decide +kernel
theorem dX11_lineByte_41 : decode cX11_lineByte 41 = .ok (.invokestatic 180, 3) := by decide +kernel
theorem dX11_lineByte_44 : decode cX11_lineByte 44 = .ok (.ifCond .ne 6, 3) := by decide +kernel
theorem dX11_lineByte_47 : decode cX11_lineByte 47 = .ok (.bipush (-2), 2) := by decide +kernel
theorem dX11_lineByte_49 : decode cX11_lineByte 49 = .ok (.ireturn, 1) := by decide +kernel
theorem dX11_lineByte_50 : decode cX11_lineByte 50 = .ok (.iload_n 3, 1) := by decide +kernel
theorem dX11_lineByte_51 : decode cX11_lineByte 51 = .ok (.ifCond .ge 6, 3) := by decide +kernel
theorem dX11_lineByte_54 : decode cX11_lineByte 54 = .ok (.bipush (-3), 2) := by decide +kernel
theorem dX11_lineByte_56 : decode cX11_lineByte 56 = .ok (.ireturn, 1) := by decide +kernel
theorem dX11_lineByte_57 : decode cX11_lineByte 57 = .ok (.aload_n 0, 1) := by decide +kernel
theorem dX11_lineByte_58 : decode cX11_lineByte 58 = .ok (.iload_n 3, 1) := by decide +kernel
theorem dX11_lineByte_59 : decode cX11_lineByte 59 = .ok (.invokevirtual 389, 3) := by decide +kernel
theorem dX11_lineByte_62 : decode cX11_lineByte 62 = .ok (.aload_n 0, 1) := by decide +kernel
theorem dX11_lineByte_63 : decode cX11_lineByte 63 = .ok (.aload_n 0, 1) := by decide +kernel
theorem dX11_lineByte_64 : decode cX11_lineByte 64 = .ok (.getfield 105, 3) := by decide +kernel
theorem dX11_lineByte_67 : decode cX11_lineByte 67 = .ok (.iload_n 2, 1) := by decide +kernel
theorem dX11_lineByte_68 : decode cX11_lineByte 68 = .ok (.iaload, 1) := by decide +kernel
theorem dX11_lineByte_69 : decode cX11_lineByte 69 = .ok (.invokevirtual 376, 3) := by decide +kernel
theorem dX11_lineByte_72 : decode cX11_lineByte 72 = .ok (.aload_n 0, 1) := by decide +kernel
theorem dX11_lineByte_73 : decode cX11_lineByte 73 = .ok (.getfield 367, 3) := by decide +kernel
theorem dX11_lineByte_76 : decode cX11_lineByte 76 = .ok (.ireturn, 1) := by decide +kernel
theorem dX11_isThen_0 : decode cX11_isThen 0 = .ok (.aload_n 0, 1) := by decide +kernel
theorem dX11_isThen_1 : decode cX11_isThen 1 = .ok (.getfield 151, 3) := by decide +kernel
theorem dX11_isThen_4 : decode cX11_isThen 4 = .ok (.aload_n 0, 1) := by decide +kernel
theorem dX11_isThen_5 : decode cX11_isThen 5 = .ok (.getfield 426, 3) := by decide +kernel
theorem dX11_isThen_8 : decode cX11_isThen 8 = .ok (.if_icmp .ne 7, 3) := by decide +kernel
theorem dX11_isThen_11 : decode cX11_isThen 11 = .ok (.iconst 1, 1) := by decide +kernel
theorem dX11_isThen_12 : decode cX11_isThen 12 = .ok (.goto 4, 3) := by decide +kernel
theorem dX11_isThen_15 : decode cX11_isThen 15 = .ok (.iconst 0, 1) := by decide +kernel
theorem dX11_isThen_16 : decode cX11_isThen 16 = .ok (.istore_n 1, 1) := by decide +kernel
theorem dX11_isThen_17 : decode cX11_isThen 17 = .ok (.iconst 0, 1) := by decide +kernel
theorem dX11_isThen_18 : decode cX11_isThen 18 = .ok (.istore_n 2, 1) := by decide +kernel
theorem dX11_isThen_19 : decode cX11_isThen 19 = .ok (.iload_n 2, 1) := by decide +kernel
theorem dX11_isThen_20 : decode cX11_isThen 20 = .ok (.aload_n 0, 1) := by decide +kernel
theorem dX11_isThen_21 : decode cX11_isThen 21 = .ok (.getfield 151, 3) := by decide +kernel
theorem dX11_isThen_24 : decode cX11_isThen 24 = .ok (.if_icmp .ge 49, 3) := by decide +kernel
theorem dX11_isThen_27 : decode cX11_isThen 27 = .ok (.iload_n 1, 1) := by decide +kernel
theorem dX11_isThen_28 : decode cX11_isThen 28 = .ok (.ifCond .eq 45, 3) := by decide +kernel
theorem dX11_isThen_31 : decode cX11_isThen 31 = .ok (.aload_n 0, 1) := by decide +kernel
theorem dX11_isThen_32 : decode cX11_isThen 32 = .ok (.getfield 59, 3) := by decide +kernel
theorem dX11_isThen_35 : decode cX11_isThen 35 = .ok (.iload_n 2, 1) := by decide +kernel
theorem dX11_isThen_36 : decode cX11_isThen 36 = .ok (.iaload, 1) := by decide +kernel
theorem dX11_isThen_37 : decode cX11_isThen 37 = .ok (.aload_n 0, 1) := by decide +kernel
theorem dX11_isThen_38 : decode cX11_isThen 38 = .ok (.getfield 117, 3) := by decide +kernel
theorem dX11_isThen_41 : decode cX11_isThen 41 = .ok (.iload_n 2, 1) := by decide +kernel
theorem dX11_isThen_42 : decode cX11_isThen 42 = .ok (.iaload, 1) := by decide +kernel
theorem dX11_isThen_43 : decode cX11_isThen 43 = .ok (.if_icmp .ne 22, 3) := by decide +kernel
theorem dX11_isThen_46 : decode cX11_isThen 46 = .ok (.aload_n 0, 1) := by decide +kernel
theorem dX11_isThen_47 : decode cX11_isThen 47 = .ok (.getfield 62, 3) := by decide +kernel
theorem dX11_isThen_50 : decode cX11_isThen 50 = .ok (.iload_n 2, 1) := by decide +kernel
theorem dX11_isThen_51 : decode cX11_isThen 51 = .ok (.iaload, 1) := by decide +kernel
theorem dX11_isThen_52 : decode cX11_isThen 52 = .ok (.aload_n 0, 1) := by decide +kernel
theorem dX11_isThen_53 : decode cX11_isThen 53 = .ok (.getfield 120, 3) := by decide +kernel
theorem dX11_isThen_56 : decode cX11_isThen 56 = .ok (.iload_n 2, 1) := by decide +kernel
theorem dX11_isThen_57 : decode cX11_isThen 57 = .ok (.iaload, 1) := by decide +kernel
theorem dX11_isThen_58 : decode cX11_isThen 58 = .ok (.if_icmp .ne 7, 3) := by decide +kernel
theorem dX11_isThen_61 : decode cX11_isThen 61 = .ok (.iconst 1, 1) := by decide +kernel
theorem dX11_isThen_62 : decode cX11_isThen 62 = .ok (.goto 4, 3) := by decide +kernel
theorem dX11_isThen_65 : decode cX11_isThen 65 = .ok (.iconst 0, 1) := by decide +kernel
theorem dX11_isThen_66 : decode cX11_isThen 66 = .ok (.istore_n 1, 1) := by decide +kernel
theorem dX11_isThen_67 : decode cX11_isThen 67 = .ok (.iinc 2 1, 3) := by decide +kernel
theorem dX11_isThen_70 : decode cX11_isThen 70 = .ok (.goto (-51), 3) := by decide +kernel
theorem dX11_isThen_73 : decode cX11_isThen 73 = .ok (.iload_n 1, 1) := by decide +kernel
theorem dX11_isThen_74 : decode cX11_isThen 74 = .ok (.ireturn, 1) := by decide +kernel
theorem dX11_keepsBeside_0 : decode cX11_keepsBeside 0 = .ok (.aload_n 0, 1) := by decide +kernel
theorem dX11_keepsBeside_1 : decode cX11_keepsBeside 1 = .ok (.aload_n 0, 1) := by decide +kernel
theorem dX11_keepsBeside_2 : decode cX11_keepsBeside 2 = .ok (.getfield 151, 3) := by decide +kernel
theorem dX11_keepsBeside_5 : decode cX11_keepsBeside 5 = .ok (.putfield 426, 3) := by decide +kernel
theorem dX11_keepsBeside_8 : decode cX11_keepsBeside 8 = .ok (.iconst 0, 1) := by decide +kernel
theorem dX11_keepsBeside_9 : decode cX11_keepsBeside 9 = .ok (.istore_n 1, 1) := by decide +kernel
theorem dX11_keepsBeside_10 : decode cX11_keepsBeside 10 = .ok (.iload_n 1, 1) := by decide +kernel
theorem dX11_keepsBeside_11 : decode cX11_keepsBeside 11 = .ok (.aload_n 0, 1) := by decide +kernel
theorem dX11_keepsBeside_12 : decode cX11_keepsBeside 12 = .ok (.getfield 151, 3) := by decide +kernel
theorem dX11_keepsBeside_15 : decode cX11_keepsBeside 15 = .ok (.if_icmp .ge 33, 3) := by decide +kernel
theorem dX11_keepsBeside_18 : decode cX11_keepsBeside 18 = .ok (.aload_n 0, 1) := by decide +kernel
theorem dX11_keepsBeside_19 : decode cX11_keepsBeside 19 = .ok (.getfield 117, 3) := by decide +kernel
theorem dX11_keepsBeside_22 : decode cX11_keepsBeside 22 = .ok (.iload_n 1, 1) := by decide +kernel
theorem dX11_keepsBeside_23 : decode cX11_keepsBeside 23 = .ok (.aload_n 0, 1) := by decide +kernel
theorem dX11_keepsBeside_24 : decode cX11_keepsBeside 24 = .ok (.getfield 59, 3) := by decide +kernel
theorem dX11_keepsBeside_27 : decode cX11_keepsBeside 27 = .ok (.iload_n 1, 1) := by decide +kernel
theorem dX11_keepsBeside_28 : decode cX11_keepsBeside 28 = .ok (.iaload, 1) := by decide +kernel
theorem dX11_keepsBeside_29 : decode cX11_keepsBeside 29 = .ok (.iastore, 1) := by decide +kernel
theorem dX11_keepsBeside_30 : decode cX11_keepsBeside 30 = .ok (.aload_n 0, 1) := by decide +kernel
theorem dX11_keepsBeside_31 : decode cX11_keepsBeside 31 = .ok (.getfield 120, 3) := by decide +kernel
theorem dX11_keepsBeside_34 : decode cX11_keepsBeside 34 = .ok (.iload_n 1, 1) := by decide +kernel
theorem dX11_keepsBeside_35 : decode cX11_keepsBeside 35 = .ok (.aload_n 0, 1) := by decide +kernel
theorem dX11_keepsBeside_36 : decode cX11_keepsBeside 36 = .ok (.getfield 62, 3) := by decide +kernel
theorem dX11_keepsBeside_39 : decode cX11_keepsBeside 39 = .ok (.iload_n 1, 1) := by decide +kernel
theorem dX11_keepsBeside_40 : decode cX11_keepsBeside 40 = .ok (.iaload, 1) := by decide +kernel
theorem dX11_keepsBeside_41 : decode cX11_keepsBeside 41 = .ok (.iastore, 1) := by decide +kernel
theorem dX11_keepsBeside_42 : decode cX11_keepsBeside 42 = .ok (.iinc 1 1, 3) := by decide +kernel
theorem dX11_keepsBeside_45 : decode cX11_keepsBeside 45 = .ok (.goto (-35), 3) := by decide +kernel
theorem dX11_keepsBeside_48 : decode cX11_keepsBeside 48 = .ok (.return_, 1) := by decide +kernel
theorem dX11_equal_0 : decode cX11_equal 0 = .ok (.aload_n 0, 1) := by decide +kernel
theorem dX11_equal_1 : decode cX11_equal 1 = .ok (.iconst 0, 1) := by decide +kernel
theorem dX11_equal_2 : decode cX11_equal 2 = .ok (.putfield 1, 3) := by decide +kernel
theorem dX11_equal_5 : decode cX11_equal 5 = .ok (.iload_n 1, 1) := by decide +kernel
theorem dX11_equal_6 : decode cX11_equal 6 = .ok (.invokestatic 271, 3) := by decide +kernel
theorem dX11_equal_9 : decode cX11_equal 9 = .ok (.ifCond .eq 10, 3) := by decide +kernel
theorem dX11_equal_12 : decode cX11_equal 12 = .ok (.iload_n 2, 1) := by decide +kernel
theorem dX11_equal_13 : decode cX11_equal 13 = .ok (.invokestatic 271, 3) := by decide +kernel
theorem dX11_equal_16 : decode cX11_equal 16 = .ok (.ifCond .ne 6, 3) := by decide +kernel
theorem dX11_equal_19 : decode cX11_equal 19 = .ok (.bipush (-2), 2) := by decide +kernel
theorem dX11_equal_21 : decode cX11_equal 21 = .ok (.ireturn, 1) := by decide +kernel
theorem dX11_equal_22 : decode cX11_equal 22 = .ok (.aload_n 0, 1) := by decide +kernel
theorem dX11_equal_23 : decode cX11_equal 23 = .ok (.iload_n 1, 1) := by decide +kernel
theorem dX11_equal_24 : decode cX11_equal 24 = .ok (.invokevirtual 343, 3) := by decide +kernel
theorem dX11_equal_27 : decode cX11_equal 27 = .ok (.ifCond .ne 11, 3) := by decide +kernel
theorem dX11_equal_30 : decode cX11_equal 30 = .ok (.aload_n 0, 1) := by decide +kernel
theorem dX11_equal_31 : decode cX11_equal 31 = .ok (.iload_n 2, 1) := by decide +kernel
theorem dX11_equal_32 : decode cX11_equal 32 = .ok (.invokevirtual 343, 3) := by decide +kernel
theorem dX11_equal_35 : decode cX11_equal 35 = .ok (.ifCond .eq 6, 3) := by decide +kernel
theorem dX11_equal_38 : decode cX11_equal 38 = .ok (.bipush (-5), 2) := by decide +kernel
theorem dX11_equal_40 : decode cX11_equal 40 = .ok (.ireturn, 1) := by decide +kernel
theorem dX11_equal_41 : decode cX11_equal 41 = .ok (.aload_n 0, 1) := by decide +kernel
theorem dX11_equal_42 : decode cX11_equal 42 = .ok (.iload_n 1, 1) := by decide +kernel
theorem dX11_equal_43 : decode cX11_equal 43 = .ok (.invokevirtual 346, 3) := by decide +kernel
theorem dX11_equal_46 : decode cX11_equal 46 = .ok (.aload_n 0, 1) := by decide +kernel
theorem dX11_equal_47 : decode cX11_equal 47 = .ok (.invokevirtual 429, 3) := by decide +kernel
theorem dX11_equal_50 : decode cX11_equal 50 = .ok (.aload_n 0, 1) := by decide +kernel
theorem dX11_equal_51 : decode cX11_equal 51 = .ok (.aload_n 0, 1) := by decide +kernel
theorem dX11_equal_52 : decode cX11_equal 52 = .ok (.getfield 56, 3) := by decide +kernel
theorem dX11_equal_55 : decode cX11_equal 55 = .ok (.iload_n 2, 1) := by decide +kernel
theorem dX11_equal_56 : decode cX11_equal 56 = .ok (.iaload, 1) := by decide +kernel
theorem dX11_equal_57 : decode cX11_equal 57 = .ok (.putfield 151, 3) := by decide +kernel
theorem dX11_equal_60 : decode cX11_equal 60 = .ok (.iconst 0, 1) := by decide +kernel
theorem dX11_equal_61 : decode cX11_equal 61 = .ok (.istore_n 3, 1) := by decide +kernel
theorem dX11_equal_62 : decode cX11_equal 62 = .ok (.iload_n 3, 1) := by decide +kernel
theorem dX11_equal_63 : decode cX11_equal 63 = .ok (.aload_n 0, 1) := by decide +kernel
theorem dX11_equal_64 : decode cX11_equal 64 = .ok (.getfield 151, 3) := by decide +kernel
theorem dX11_equal_67 : decode cX11_equal 67 = .ok (.if_icmp .ge 45, 3) := by decide +kernel
theorem dX11_equal_70 : decode cX11_equal 70 = .ok (.aload_n 0, 1) := by decide +kernel
theorem dX11_equal_71 : decode cX11_equal 71 = .ok (.getfield 59, 3) := by decide +kernel
theorem dX11_equal_74 : decode cX11_equal 74 = .ok (.iload_n 3, 1) := by decide +kernel
theorem dX11_equal_75 : decode cX11_equal 75 = .ok (.aload_n 0, 1) := by decide +kernel
theorem dX11_equal_76 : decode cX11_equal 76 = .ok (.getfield 50, 3) := by decide +kernel
theorem dX11_equal_79 : decode cX11_equal 79 = .ok (.sipush 200, 3) := by decide +kernel
theorem dX11_equal_82 : decode cX11_equal 82 = .ok (.iload_n 2, 1) := by decide +kernel
theorem dX11_equal_83 : decode cX11_equal 83 = .ok (.imul, 1) := by decide +kernel
theorem dX11_equal_84 : decode cX11_equal 84 = .ok (.iload_n 3, 1) := by decide +kernel
theorem dX11_equal_85 : decode cX11_equal 85 = .ok (.iadd, 1) := by decide +kernel
theorem dX11_equal_86 : decode cX11_equal 86 = .ok (.iaload, 1) := by decide +kernel
theorem dX11_equal_87 : decode cX11_equal 87 = .ok (.iastore, 1) := by decide +kernel
theorem dX11_equal_88 : decode cX11_equal 88 = .ok (.aload_n 0, 1) := by decide +kernel
theorem dX11_equal_89 : decode cX11_equal 89 = .ok (.getfield 62, 3) := by decide +kernel
theorem dX11_equal_92 : decode cX11_equal 92 = .ok (.iload_n 3, 1) := by decide +kernel
theorem dX11_equal_93 : decode cX11_equal 93 = .ok (.aload_n 0, 1) := by decide +kernel
theorem dX11_equal_94 : decode cX11_equal 94 = .ok (.getfield 53, 3) := by decide +kernel
theorem dX11_equal_97 : decode cX11_equal 97 = .ok (.sipush 200, 3) := by decide +kernel
theorem dX11_equal_100 : decode cX11_equal 100 = .ok (.iload_n 2, 1) := by decide +kernel
theorem dX11_equal_101 : decode cX11_equal 101 = .ok (.imul, 1) := by decide +kernel
theorem dX11_equal_102 : decode cX11_equal 102 = .ok (.iload_n 3, 1) := by decide +kernel
theorem dX11_equal_103 : decode cX11_equal 103 = .ok (.iadd, 1) := by decide +kernel
theorem dX11_equal_104 : decode cX11_equal 104 = .ok (.iaload, 1) := by decide +kernel
theorem dX11_equal_105 : decode cX11_equal 105 = .ok (.iastore, 1) := by decide +kernel
theorem dX11_equal_106 : decode cX11_equal 106 = .ok (.iinc 3 1, 3) := by decide +kernel
theorem dX11_equal_109 : decode cX11_equal 109 = .ok (.goto (-47), 3) := by decide +kernel
theorem dX11_equal_112 : decode cX11_equal 112 = .ok (.aload_n 0, 1) := by decide +kernel
theorem dX11_equal_113 : decode cX11_equal 113 = .ok (.invokevirtual 432, 3) := by decide +kernel
theorem dX11_equal_116 : decode cX11_equal 116 = .ok (.ifCond .eq 7, 3) := by decide +kernel
theorem dX11_equal_119 : decode cX11_equal 119 = .ok (.iconst 1, 1) := by decide +kernel
theorem dX11_equal_120 : decode cX11_equal 120 = .ok (.goto 4, 3) := by decide +kernel
theorem dX11_equal_123 : decode cX11_equal 123 = .ok (.iconst 0, 1) := by decide +kernel
theorem dX11_equal_124 : decode cX11_equal 124 = .ok (.ireturn, 1) := by decide +kernel
theorem dX11_alike_0 : decode cX11_alike 0 = .ok (.aload_n 0, 1) := by decide +kernel
theorem dX11_alike_1 : decode cX11_alike 1 = .ok (.iconst 0, 1) := by decide +kernel
theorem dX11_alike_2 : decode cX11_alike 2 = .ok (.putfield 1, 3) := by decide +kernel
theorem dX11_alike_5 : decode cX11_alike 5 = .ok (.iload_n 1, 1) := by decide +kernel
theorem dX11_alike_6 : decode cX11_alike 6 = .ok (.invokestatic 271, 3) := by decide +kernel
theorem dX11_alike_9 : decode cX11_alike 9 = .ok (.ifCond .eq 10, 3) := by decide +kernel
theorem dX11_alike_12 : decode cX11_alike 12 = .ok (.iload_n 2, 1) := by decide +kernel
theorem dX11_alike_13 : decode cX11_alike 13 = .ok (.invokestatic 271, 3) := by decide +kernel
theorem dX11_alike_16 : decode cX11_alike 16 = .ok (.ifCond .ne 6, 3) := by decide +kernel
theorem dX11_alike_19 : decode cX11_alike 19 = .ok (.bipush (-2), 2) := by decide +kernel
theorem dX11_alike_21 : decode cX11_alike 21 = .ok (.ireturn, 1) := by decide +kernel
theorem dX11_alike_22 : decode cX11_alike 22 = .ok (.aload_n 0, 1) := by decide +kernel
theorem dX11_alike_23 : decode cX11_alike 23 = .ok (.iload_n 1, 1) := by decide +kernel
theorem dX11_alike_24 : decode cX11_alike 24 = .ok (.invokevirtual 343, 3) := by decide +kernel
theorem dX11_alike_27 : decode cX11_alike 27 = .ok (.ifCond .ne 11, 3) := by decide +kernel
theorem dX11_alike_30 : decode cX11_alike 30 = .ok (.aload_n 0, 1) := by decide +kernel
theorem dX11_alike_31 : decode cX11_alike 31 = .ok (.iload_n 2, 1) := by decide +kernel
theorem dX11_alike_32 : decode cX11_alike 32 = .ok (.invokevirtual 343, 3) := by decide +kernel
theorem dX11_alike_35 : decode cX11_alike 35 = .ok (.ifCond .eq 6, 3) := by decide +kernel
theorem dX11_alike_38 : decode cX11_alike 38 = .ok (.bipush (-5), 2) := by decide +kernel
theorem dX11_alike_40 : decode cX11_alike 40 = .ok (.ireturn, 1) := by decide +kernel
theorem dX11_alike_41 : decode cX11_alike 41 = .ok (.aload_n 0, 1) := by decide +kernel
theorem dX11_alike_42 : decode cX11_alike 42 = .ok (.iconst 1, 1) := by decide +kernel
theorem dX11_alike_43 : decode cX11_alike 43 = .ok (.putfield 140, 3) := by decide +kernel
theorem dX11_alike_46 : decode cX11_alike 46 = .ok (.aload_n 0, 1) := by decide +kernel
theorem dX11_alike_47 : decode cX11_alike 47 = .ok (.iload_n 1, 1) := by decide +kernel
theorem dX11_alike_48 : decode cX11_alike 48 = .ok (.invokevirtual 346, 3) := by decide +kernel
theorem dX11_alike_51 : decode cX11_alike 51 = .ok (.aload_n 0, 1) := by decide +kernel
theorem dX11_alike_52 : decode cX11_alike 52 = .ok (.invokevirtual 355, 3) := by decide +kernel
theorem dX11_alike_55 : decode cX11_alike 55 = .ok (.istore_n 3, 1) := by decide +kernel
theorem dX11_alike_56 : decode cX11_alike 56 = .ok (.aload_n 0, 1) := by decide +kernel
theorem dX11_alike_57 : decode cX11_alike 57 = .ok (.invokevirtual 429, 3) := by decide +kernel
theorem dX11_alike_60 : decode cX11_alike 60 = .ok (.aload_n 0, 1) := by decide +kernel
theorem dX11_alike_61 : decode cX11_alike 61 = .ok (.iload_n 2, 1) := by decide +kernel
theorem dX11_alike_62 : decode cX11_alike 62 = .ok (.invokevirtual 346, 3) := by decide +kernel
theorem dX11_alike_65 : decode cX11_alike 65 = .ok (.iload_n 3, 1) := by decide +kernel
theorem dX11_alike_66 : decode cX11_alike 66 = .ok (.ifCond .ge 7, 3) := by decide +kernel
theorem dX11_alike_69 : decode cX11_alike 69 = .ok (.iload_n 3, 1) := by decide +kernel
theorem dX11_alike_70 : decode cX11_alike 70 = .ok (.goto 7, 3) := by decide +kernel
theorem dX11_alike_73 : decode cX11_alike 73 = .ok (.aload_n 0, 1) := by decide +kernel
theorem dX11_alike_74 : decode cX11_alike 74 = .ok (.invokevirtual 355, 3) := by decide +kernel
theorem dX11_alike_77 : decode cX11_alike 77 = .ok (.istore 4, 2) := by decide +kernel
theorem dX11_alike_79 : decode cX11_alike 79 = .ok (.aload_n 0, 1) := by decide +kernel
theorem dX11_alike_80 : decode cX11_alike 80 = .ok (.iconst 0, 1) := by decide +kernel
theorem dX11_alike_81 : decode cX11_alike 81 = .ok (.putfield 140, 3) := by decide +kernel
theorem dX11_alike_84 : decode cX11_alike 84 = .ok (.iload 4, 2) := by decide +kernel
theorem dX11_alike_86 : decode cX11_alike 86 = .ok (.ifCond .ge 8, 3) := by decide +kernel
theorem dX11_alike_89 : decode cX11_alike 89 = .ok (.iload 4, 2) := by decide +kernel
theorem dX11_alike_91 : decode cX11_alike 91 = .ok (.goto 15, 3) := by decide +kernel
theorem dX11_alike_94 : decode cX11_alike 94 = .ok (.aload_n 0, 1) := by decide +kernel
theorem dX11_alike_95 : decode cX11_alike 95 = .ok (.invokevirtual 432, 3) := by decide +kernel
theorem dX11_alike_98 : decode cX11_alike 98 = .ok (.ifCond .eq 7, 3) := by decide +kernel
theorem dX11_alike_101 : decode cX11_alike 101 = .ok (.iconst 1, 1) := by decide +kernel
theorem dX11_alike_102 : decode cX11_alike 102 = .ok (.goto 4, 3) := by decide +kernel
theorem dX11_alike_105 : decode cX11_alike 105 = .ok (.iconst 0, 1) := by decide +kernel
theorem dX11_alike_106 : decode cX11_alike 106 = .ok (.ireturn, 1) := by decide +kernel
theorem dX11_side_0 : decode cX11_side 0 = .ok (.aload_n 0, 1) := by decide +kernel
theorem dX11_side_1 : decode cX11_side 1 = .ok (.iconst 0, 1) := by decide +kernel
theorem dX11_side_2 : decode cX11_side 2 = .ok (.putfield 1, 3) := by decide +kernel
theorem dX11_side_5 : decode cX11_side 5 = .ok (.iload_n 1, 1) := by decide +kernel
theorem dX11_side_6 : decode cX11_side 6 = .ok (.invokestatic 271, 3) := by decide +kernel
theorem dX11_side_9 : decode cX11_side 9 = .ok (.ifCond .ne 6, 3) := by decide +kernel
theorem dX11_side_12 : decode cX11_side 12 = .ok (.bipush (-2), 2) := by decide +kernel
theorem dX11_side_14 : decode cX11_side 14 = .ok (.ireturn, 1) := by decide +kernel
theorem dX11_side_15 : decode cX11_side 15 = .ok (.aload_n 0, 1) := by decide +kernel
theorem dX11_side_16 : decode cX11_side 16 = .ok (.iload_n 1, 1) := by decide +kernel
theorem dX11_side_17 : decode cX11_side 17 = .ok (.invokevirtual 343, 3) := by decide +kernel
theorem dX11_side_20 : decode cX11_side 20 = .ok (.ifCond .eq 6, 3) := by decide +kernel
theorem dX11_side_23 : decode cX11_side 23 = .ok (.bipush (-5), 2) := by decide +kernel
theorem dX11_side_25 : decode cX11_side 25 = .ok (.ireturn, 1) := by decide +kernel
theorem dX11_side_26 : decode cX11_side 26 = .ok (.aload_n 0, 1) := by decide +kernel
theorem dX11_side_27 : decode cX11_side 27 = .ok (.iload_n 1, 1) := by decide +kernel
theorem dX11_side_28 : decode cX11_side 28 = .ok (.invokevirtual 346, 3) := by decide +kernel
theorem dX11_side_31 : decode cX11_side 31 = .ok (.aload_n 0, 1) := by decide +kernel
theorem dX11_side_32 : decode cX11_side 32 = .ok (.getfield 13, 3) := by decide +kernel
theorem dX11_side_35 : decode cX11_side 35 = .ok (.aload_n 0, 1) := by decide +kernel
theorem dX11_side_36 : decode cX11_side 36 = .ok (.invokevirtual 331, 3) := by decide +kernel
theorem dX11_side_39 : decode cX11_side 39 = .ok (.iaload, 1) := by decide +kernel
theorem dX11_side_40 : decode cX11_side 40 = .ok (.bipush 11, 2) := by decide +kernel
theorem dX11_side_42 : decode cX11_side 42 = .ok (.if_icmp .eq 6, 3) := by decide +kernel
theorem dX11_side_45 : decode cX11_side 45 = .ok (.bipush (-5), 2) := by decide +kernel
theorem dX11_side_47 : decode cX11_side 47 = .ok (.ireturn, 1) := by decide +kernel
theorem dX11_side_48 : decode cX11_side 48 = .ok (.aload_n 0, 1) := by decide +kernel
theorem dX11_side_49 : decode cX11_side 49 = .ok (.invokevirtual 355, 3) := by decide +kernel
theorem dX11_side_52 : decode cX11_side 52 = .ok (.istore_n 2, 1) := by decide +kernel
theorem dX11_side_53 : decode cX11_side 53 = .ok (.iload_n 2, 1) := by decide +kernel
theorem dX11_side_54 : decode cX11_side 54 = .ok (.ifCond .ge 5, 3) := by decide +kernel
theorem dX11_side_57 : decode cX11_side 57 = .ok (.iload_n 2, 1) := by decide +kernel
theorem dX11_side_58 : decode cX11_side 58 = .ok (.ireturn, 1) := by decide +kernel
theorem dX11_side_59 : decode cX11_side 59 = .ok (.aload_n 0, 1) := by decide +kernel
theorem dX11_side_60 : decode cX11_side 60 = .ok (.getfield 59, 3) := by decide +kernel
theorem dX11_side_63 : decode cX11_side 63 = .ok (.iconst 0, 1) := by decide +kernel
theorem dX11_side_64 : decode cX11_side 64 = .ok (.iaload, 1) := by decide +kernel
theorem dX11_side_65 : decode cX11_side 65 = .ok (.bipush 6, 2) := by decide +kernel
theorem dX11_side_67 : decode cX11_side 67 = .ok (.if_icmp .ne 7, 3) := by decide +kernel
theorem dX11_side_70 : decode cX11_side 70 = .ok (.iconst 0, 1) := by decide +kernel
theorem dX11_side_71 : decode cX11_side 71 = .ok (.goto 19, 3) := by decide +kernel
theorem dX11_side_74 : decode cX11_side 74 = .ok (.aload_n 0, 1) := by decide +kernel
theorem dX11_side_75 : decode cX11_side 75 = .ok (.getfield 59, 3) := by decide +kernel
theorem dX11_side_78 : decode cX11_side 78 = .ok (.iconst 0, 1) := by decide +kernel
theorem dX11_side_79 : decode cX11_side 79 = .ok (.iaload, 1) := by decide +kernel
theorem dX11_side_80 : decode cX11_side 80 = .ok (.bipush 7, 2) := by decide +kernel
theorem dX11_side_82 : decode cX11_side 82 = .ok (.if_icmp .ne 7, 3) := by decide +kernel
theorem dX11_side_85 : decode cX11_side 85 = .ok (.iconst 1, 1) := by decide +kernel
theorem dX11_side_86 : decode cX11_side 86 = .ok (.goto 4, 3) := by decide +kernel
theorem dX11_side_89 : decode cX11_side 89 = .ok (.iconst (-1), 1) := by decide +kernel
theorem dX11_side_90 : decode cX11_side 90 = .ok (.ireturn, 1) := by decide +kernel
theorem dX11_wordsOf_0 : decode cX11_wordsOf 0 = .ok (.aload_n 0, 1) := by decide +kernel
theorem dX11_wordsOf_1 : decode cX11_wordsOf 1 = .ok (.getfield 17, 3) := by decide +kernel
theorem dX11_wordsOf_4 : decode cX11_wordsOf 4 = .ok (.iload_n 1, 1) := by decide +kernel
theorem dX11_wordsOf_5 : decode cX11_wordsOf 5 = .ok (.iaload, 1) := by decide +kernel
theorem dX11_wordsOf_6 : decode cX11_wordsOf 6 = .ok (.iconst (-1), 1) := by decide +kernel
theorem dX11_wordsOf_7 : decode cX11_wordsOf 7 = .ok (.if_icmp .ne 7, 3) := by decide +kernel
theorem dX11_wordsOf_10 : decode cX11_wordsOf 10 = .ok (.iconst 1, 1) := by decide +kernel
theorem dX11_wordsOf_11 : decode cX11_wordsOf 11 = .ok (.goto 26, 3) := by decide +kernel
theorem dX11_wordsOf_14 : decode cX11_wordsOf 14 = .ok (.iconst 1, 1) := by decide +kernel
theorem dX11_wordsOf_15 : decode cX11_wordsOf 15 = .ok (.aload_n 0, 1) := by decide +kernel
theorem dX11_wordsOf_16 : decode cX11_wordsOf 16 = .ok (.aload_n 0, 1) := by decide +kernel
theorem dX11_wordsOf_17 : decode cX11_wordsOf 17 = .ok (.getfield 17, 3) := by decide +kernel
theorem dX11_wordsOf_20 : decode cX11_wordsOf 20 = .ok (.iload_n 1, 1) := by decide +kernel
theorem dX11_wordsOf_21 : decode cX11_wordsOf 21 = .ok (.iaload, 1) := by decide +kernel
theorem dX11_wordsOf_22 : decode cX11_wordsOf 22 = .ok (.invokevirtual 435, 3) := by decide +kernel
theorem dX11_wordsOf_25 : decode cX11_wordsOf 25 = .ok (.iadd, 1) := by decide +kernel
theorem dX11_wordsOf_26 : decode cX11_wordsOf 26 = .ok (.aload_n 0, 1) := by decide +kernel
theorem dX11_wordsOf_27 : decode cX11_wordsOf 27 = .ok (.aload_n 0, 1) := by decide +kernel
theorem dX11_wordsOf_28 : decode cX11_wordsOf 28 = .ok (.getfield 20, 3) := by decide +kernel
theorem dX11_wordsOf_31 : decode cX11_wordsOf 31 = .ok (.iload_n 1, 1) := by decide +kernel
theorem dX11_wordsOf_32 : decode cX11_wordsOf 32 = .ok (.iaload, 1) := by decide +kernel
theorem dX11_wordsOf_33 : decode cX11_wordsOf 33 = .ok (.invokevirtual 435, 3) := by decide +kernel
theorem dX11_wordsOf_36 : decode cX11_wordsOf 36 = .ok (.iadd, 1) := by decide +kernel
theorem dX11_wordsOf_37 : decode cX11_wordsOf 37 = .ok (.ireturn, 1) := by decide +kernel
theorem dX11_isHad_0 : decode cX11_isHad 0 = .ok (.iload_n 1, 1) := by decide +kernel
theorem dX11_isHad_1 : decode cX11_isHad 1 = .ok (.istore 4, 2) := by decide +kernel
theorem dX11_isHad_3 : decode cX11_isHad 3 = .ok (.iload 4, 2) := by decide +kernel
theorem dX11_isHad_5 : decode cX11_isHad 5 = .ok (.iload_n 2, 1) := by decide +kernel
theorem dX11_isHad_6 : decode cX11_isHad 6 = .ok (.if_icmp .ge 22, 3) := by decide +kernel
theorem dX11_isHad_9 : decode cX11_isHad 9 = .ok (.aload_n 0, 1) := by decide +kernel
theorem dX11_isHad_10 : decode cX11_isHad 10 = .ok (.getfield 124, 3) := by decide +kernel
theorem dX11_isHad_13 : decode cX11_isHad 13 = .ok (.iload 4, 2) := by decide +kernel
theorem dX11_isHad_15 : decode cX11_isHad 15 = .ok (.iaload, 1) := by decide +kernel
theorem dX11_isHad_16 : decode cX11_isHad 16 = .ok (.iload_n 3, 1) := by decide +kernel
theorem dX11_isHad_17 : decode cX11_isHad 17 = .ok (.if_icmp .ne 5, 3) := by decide +kernel
theorem dX11_isHad_20 : decode cX11_isHad 20 = .ok (.iconst 1, 1) := by decide +kernel
theorem dX11_isHad_21 : decode cX11_isHad 21 = .ok (.ireturn, 1) := by decide +kernel
theorem dX11_isHad_22 : decode cX11_isHad 22 = .ok (.iinc 4 1, 3) := by decide +kernel
theorem dX11_isHad_25 : decode cX11_isHad 25 = .ok (.goto (-22), 3) := by decide +kernel
theorem dX11_isHad_28 : decode cX11_isHad 28 = .ok (.iconst 0, 1) := by decide +kernel
theorem dX11_isHad_29 : decode cX11_isHad 29 = .ok (.ireturn, 1) := by decide +kernel
theorem dX11_copiesHad_0 : decode cX11_copiesHad 0 = .ok (.iload_n 2, 1) := by decide +kernel
theorem dX11_copiesHad_1 : decode cX11_copiesHad 1 = .ok (.istore 4, 2) := by decide +kernel
theorem dX11_copiesHad_3 : decode cX11_copiesHad 3 = .ok (.iload_n 1, 1) := by decide +kernel
theorem dX11_copiesHad_4 : decode cX11_copiesHad 4 = .ok (.istore 5, 2) := by decide +kernel
theorem dX11_copiesHad_6 : decode cX11_copiesHad 6 = .ok (.iload 5, 2) := by decide +kernel
theorem dX11_copiesHad_8 : decode cX11_copiesHad 8 = .ok (.iload_n 2, 1) := by decide +kernel
theorem dX11_copiesHad_9 : decode cX11_copiesHad 9 = .ok (.if_icmp .ge 35, 3) := by decide +kernel
theorem dX11_copiesHad_12 : decode cX11_copiesHad 12 = .ok (.iload 5, 2) := by decide +kernel
theorem dX11_copiesHad_14 : decode cX11_copiesHad 14 = .ok (.iload_n 3, 1) := by decide +kernel
theorem dX11_copiesHad_15 : decode cX11_copiesHad 15 = .ok (.if_icmp .ne 6, 3) := by decide +kernel
theorem dX11_copiesHad_18 : decode cX11_copiesHad 18 = .ok (.goto 20, 3) := by decide +kernel
theorem dX11_copiesHad_21 : decode cX11_copiesHad 21 = .ok (.aload_n 0, 1) := by decide +kernel
theorem dX11_copiesHad_22 : decode cX11_copiesHad 22 = .ok (.getfield 124, 3) := by decide +kernel
theorem dX11_copiesHad_25 : decode cX11_copiesHad 25 = .ok (.iload 4, 2) := by decide +kernel
theorem dX11_copiesHad_27 : decode cX11_copiesHad 27 = .ok (.aload_n 0, 1) := by decide +kernel
theorem dX11_copiesHad_28 : decode cX11_copiesHad 28 = .ok (.getfield 124, 3) := by decide +kernel
theorem dX11_copiesHad_31 : decode cX11_copiesHad 31 = .ok (.iload 5, 2) := by decide +kernel
theorem dX11_copiesHad_33 : decode cX11_copiesHad 33 = .ok (.iaload, 1) := by decide +kernel
theorem dX11_copiesHad_34 : decode cX11_copiesHad 34 = .ok (.iastore, 1) := by decide +kernel
theorem dX11_copiesHad_35 : decode cX11_copiesHad 35 = .ok (.iinc 4 1, 3) := by decide +kernel
theorem dX11_copiesHad_38 : decode cX11_copiesHad 38 = .ok (.iinc 5 1, 3) := by decide +kernel
theorem dX11_copiesHad_41 : decode cX11_copiesHad 41 = .ok (.goto (-35), 3) := by decide +kernel
theorem dX11_copiesHad_44 : decode cX11_copiesHad 44 = .ok (.iload 4, 2) := by decide +kernel
theorem dX11_copiesHad_46 : decode cX11_copiesHad 46 = .ok (.ireturn, 1) := by decide +kernel
theorem dX11_withHad_0 : decode cX11_withHad 0 = .ok (.aload_n 0, 1) := by decide +kernel
theorem dX11_withHad_1 : decode cX11_withHad 1 = .ok (.iload_n 1, 1) := by decide +kernel
theorem dX11_withHad_2 : decode cX11_withHad 2 = .ok (.iload_n 2, 1) := by decide +kernel
theorem dX11_withHad_3 : decode cX11_withHad 3 = .ok (.iload_n 3, 1) := by decide +kernel
theorem dX11_withHad_4 : decode cX11_withHad 4 = .ok (.invokevirtual 438, 3) := by decide +kernel
theorem dX11_withHad_7 : decode cX11_withHad 7 = .ok (.ifCond .eq 5, 3) := by decide +kernel
theorem dX11_withHad_10 : decode cX11_withHad 10 = .ok (.iload_n 2, 1) := by decide +kernel
theorem dX11_withHad_11 : decode cX11_withHad 11 = .ok (.ireturn, 1) := by decide +kernel
theorem dX11_withHad_12 : decode cX11_withHad 12 = .ok (.aload_n 0, 1) := by decide +kernel
theorem dX11_withHad_13 : decode cX11_withHad 13 = .ok (.getfield 124, 3) := by decide +kernel
theorem dX11_withHad_16 : decode cX11_withHad 16 = .ok (.iload_n 2, 1) := by decide +kernel
theorem dX11_withHad_17 : decode cX11_withHad 17 = .ok (.iload_n 3, 1) := by decide +kernel
theorem dX11_withHad_18 : decode cX11_withHad 18 = .ok (.iastore, 1) := by decide +kernel
theorem dX11_withHad_19 : decode cX11_withHad 19 = .ok (.iload_n 2, 1) := by decide +kernel
theorem dX11_withHad_20 : decode cX11_withHad 20 = .ok (.iconst 1, 1) := by decide +kernel
theorem dX11_withHad_21 : decode cX11_withHad 21 = .ok (.iadd, 1) := by decide +kernel
theorem dX11_withHad_22 : decode cX11_withHad 22 = .ok (.ireturn, 1) := by decide +kernel
theorem dX11_canProve_0 : decode cX11_canProve 0 = .ok (.aload_n 0, 1) := by decide +kernel
theorem dX11_canProve_1 : decode cX11_canProve 1 = .ok (.iload_n 1, 1) := by decide +kernel
theorem dX11_canProve_2 : decode cX11_canProve 2 = .ok (.iload_n 2, 1) := by decide +kernel
theorem dX11_canProve_3 : decode cX11_canProve 3 = .ok (.iload_n 3, 1) := by decide +kernel
theorem dX11_canProve_4 : decode cX11_canProve 4 = .ok (.invokevirtual 438, 3) := by decide +kernel
theorem dX11_canProve_7 : decode cX11_canProve 7 = .ok (.ifCond .ne 20, 3) := by decide +kernel
theorem dX11_canProve_10 : decode cX11_canProve 10 = .ok (.aload_n 0, 1) := by decide +kernel
theorem dX11_canProve_11 : decode cX11_canProve 11 = .ok (.iload_n 1, 1) := by decide +kernel
theorem dX11_canProve_12 : decode cX11_canProve 12 = .ok (.iload_n 2, 1) := by decide +kernel
theorem dX11_canProve_13 : decode cX11_canProve 13 = .ok (.aload_n 0, 1) := by decide +kernel
theorem dX11_canProve_14 : decode cX11_canProve 14 = .ok (.bipush 8, 2) := by decide +kernel
theorem dX11_canProve_16 : decode cX11_canProve 16 = .ok (.iconst (-1), 1) := by decide +kernel
theorem dX11_canProve_17 : decode cX11_canProve 17 = .ok (.iconst (-1), 1) := by decide +kernel
theorem dX11_canProve_18 : decode cX11_canProve 18 = .ok (.invokevirtual 130, 3) := by decide +kernel
theorem dX11_canProve_21 : decode cX11_canProve 21 = .ok (.invokevirtual 438, 3) := by decide +kernel
theorem dX11_canProve_24 : decode cX11_canProve 24 = .ok (.ifCond .eq 5, 3) := by decide +kernel
theorem dX11_canProve_27 : decode cX11_canProve 27 = .ok (.iconst 1, 1) := by decide +kernel
theorem dX11_canProve_28 : decode cX11_canProve 28 = .ok (.ireturn, 1) := by decide +kernel
theorem dX11_canProve_29 : decode cX11_canProve 29 = .ok (.iload_n 1, 1) := by decide +kernel
theorem dX11_canProve_30 : decode cX11_canProve 30 = .ok (.istore 4, 2) := by decide +kernel
theorem dX11_canProve_32 : decode cX11_canProve 32 = .ok (.iload 4, 2) := by decide +kernel
theorem dX11_canProve_34 : decode cX11_canProve 34 = .ok (.iload_n 2, 1) := by decide +kernel
theorem dX11_canProve_35 : decode cX11_canProve 35 = .ok (.if_icmp .ge 361, 3) := by decide +kernel
theorem dX11_canProve_38 : decode cX11_canProve 38 = .ok (.aload_n 0, 1) := by decide +kernel
theorem dX11_canProve_39 : decode cX11_canProve 39 = .ok (.getfield 124, 3) := by decide +kernel
theorem dX11_canProve_42 : decode cX11_canProve 42 = .ok (.iload 4, 2) := by decide +kernel
theorem dX11_canProve_44 : decode cX11_canProve 44 = .ok (.iaload, 1) := by decide +kernel
theorem dX11_canProve_45 : decode cX11_canProve 45 = .ok (.istore 5, 2) := by decide +kernel
theorem dX11_canProve_47 : decode cX11_canProve 47 = .ok (.aload_n 0, 1) := by decide +kernel
theorem dX11_canProve_48 : decode cX11_canProve 48 = .ok (.getfield 17, 3) := by decide +kernel
theorem dX11_canProve_51 : decode cX11_canProve 51 = .ok (.iload 5, 2) := by decide +kernel
theorem dX11_canProve_53 : decode cX11_canProve 53 = .ok (.iaload, 1) := by decide +kernel
theorem dX11_canProve_54 : decode cX11_canProve 54 = .ok (.istore 6, 2) := by decide +kernel
theorem dX11_canProve_56 : decode cX11_canProve 56 = .ok (.aload_n 0, 1) := by decide +kernel
theorem dX11_canProve_57 : decode cX11_canProve 57 = .ok (.getfield 20, 3) := by decide +kernel
theorem dX11_canProve_60 : decode cX11_canProve 60 = .ok (.iload 5, 2) := by decide +kernel
theorem dX11_canProve_62 : decode cX11_canProve 62 = .ok (.iaload, 1) := by decide +kernel
theorem dX11_canProve_63 : decode cX11_canProve 63 = .ok (.istore 7, 2) := by decide +kernel
theorem dX11_canProve_65 : decode cX11_canProve 65 = .ok (.aload_n 0, 1) := by decide +kernel
theorem dX11_canProve_66 : decode cX11_canProve 66 = .ok (.getfield 13, 3) := by decide +kernel
theorem dX11_canProve_69 : decode cX11_canProve 69 = .ok (.iload 5, 2) := by decide +kernel
theorem dX11_canProve_71 : decode cX11_canProve 71 = .ok (.iaload, 1) := by decide +kernel
theorem dX11_canProve_72 : decode cX11_canProve 72 = .ok (.bipush 10, 2) := by decide +kernel
theorem dX11_canProve_74 : decode cX11_canProve 74 = .ok (.if_icmp .ne 44, 3) := by decide +kernel
theorem dX11_canProve_77 : decode cX11_canProve 77 = .ok (.aload_n 0, 1) := by decide +kernel
theorem dX11_canProve_78 : decode cX11_canProve 78 = .ok (.iload_n 1, 1) := by decide +kernel
theorem dX11_canProve_79 : decode cX11_canProve 79 = .ok (.iload_n 2, 1) := by decide +kernel
theorem dX11_canProve_80 : decode cX11_canProve 80 = .ok (.iload 4, 2) := by decide +kernel
theorem dX11_canProve_82 : decode cX11_canProve 82 = .ok (.invokevirtual 441, 3) := by decide +kernel
theorem dX11_canProve_85 : decode cX11_canProve 85 = .ok (.istore 8, 2) := by decide +kernel
theorem dX11_canProve_87 : decode cX11_canProve 87 = .ok (.aload_n 0, 1) := by decide +kernel
theorem dX11_canProve_88 : decode cX11_canProve 88 = .ok (.iload_n 2, 1) := by decide +kernel
theorem dX11_canProve_89 : decode cX11_canProve 89 = .ok (.iload 8, 2) := by decide +kernel
theorem dX11_canProve_91 : decode cX11_canProve 91 = .ok (.iload 6, 2) := by decide +kernel
theorem dX11_canProve_93 : decode cX11_canProve 93 = .ok (.invokevirtual 444, 3) := by decide +kernel
theorem dX11_canProve_96 : decode cX11_canProve 96 = .ok (.istore 8, 2) := by decide +kernel
theorem dX11_canProve_98 : decode cX11_canProve 98 = .ok (.aload_n 0, 1) := by decide +kernel
theorem dX11_canProve_99 : decode cX11_canProve 99 = .ok (.iload_n 2, 1) := by decide +kernel
theorem dX11_canProve_100 : decode cX11_canProve 100 = .ok (.iload 8, 2) := by decide +kernel
theorem dX11_canProve_102 : decode cX11_canProve 102 = .ok (.iload 7, 2) := by decide +kernel
theorem dX11_canProve_104 : decode cX11_canProve 104 = .ok (.invokevirtual 444, 3) := by decide +kernel
theorem dX11_canProve_107 : decode cX11_canProve 107 = .ok (.istore 8, 2) := by decide +kernel
theorem dX11_canProve_109 : decode cX11_canProve 109 = .ok (.aload_n 0, 1) := by decide +kernel
theorem dX11_canProve_110 : decode cX11_canProve 110 = .ok (.iload_n 2, 1) := by decide +kernel
theorem dX11_canProve_111 : decode cX11_canProve 111 = .ok (.iload 8, 2) := by decide +kernel
theorem dX11_canProve_113 : decode cX11_canProve 113 = .ok (.iload_n 3, 1) := by decide +kernel
theorem dX11_canProve_114 : decode cX11_canProve 114 = .ok (.invokevirtual 447, 3) := by decide +kernel
theorem dX11_canProve_117 : decode cX11_canProve 117 = .ok (.ireturn, 1) := by decide +kernel
theorem dX11_canProve_118 : decode cX11_canProve 118 = .ok (.aload_n 0, 1) := by decide +kernel
theorem dX11_canProve_119 : decode cX11_canProve 119 = .ok (.getfield 13, 3) := by decide +kernel
theorem dX11_canProve_122 : decode cX11_canProve 122 = .ok (.iload 5, 2) := by decide +kernel
theorem dX11_canProve_124 : decode cX11_canProve 124 = .ok (.iaload, 1) := by decide +kernel
theorem dX11_canProve_125 : decode cX11_canProve 125 = .ok (.bipush 11, 2) := by decide +kernel
theorem dX11_canProve_127 : decode cX11_canProve 127 = .ok (.if_icmp .ne 59, 3) := by decide +kernel
theorem dX11_canProve_130 : decode cX11_canProve 130 = .ok (.aload_n 0, 1) := by decide +kernel
theorem dX11_canProve_131 : decode cX11_canProve 131 = .ok (.iload_n 1, 1) := by decide +kernel
theorem dX11_canProve_132 : decode cX11_canProve 132 = .ok (.iload_n 2, 1) := by decide +kernel
theorem dX11_canProve_133 : decode cX11_canProve 133 = .ok (.iload 4, 2) := by decide +kernel
theorem dX11_canProve_135 : decode cX11_canProve 135 = .ok (.invokevirtual 441, 3) := by decide +kernel
theorem dX11_canProve_138 : decode cX11_canProve 138 = .ok (.istore 8, 2) := by decide +kernel
theorem dX11_canProve_140 : decode cX11_canProve 140 = .ok (.aload_n 0, 1) := by decide +kernel
theorem dX11_canProve_141 : decode cX11_canProve 141 = .ok (.iload_n 2, 1) := by decide +kernel
theorem dX11_canProve_142 : decode cX11_canProve 142 = .ok (.aload_n 0, 1) := by decide +kernel
theorem dX11_canProve_143 : decode cX11_canProve 143 = .ok (.iload_n 2, 1) := by decide +kernel
theorem dX11_canProve_144 : decode cX11_canProve 144 = .ok (.iload 8, 2) := by decide +kernel
theorem dX11_canProve_146 : decode cX11_canProve 146 = .ok (.iload 6, 2) := by decide +kernel
theorem dX11_canProve_148 : decode cX11_canProve 148 = .ok (.invokevirtual 444, 3) := by decide +kernel
theorem dX11_canProve_151 : decode cX11_canProve 151 = .ok (.iload_n 3, 1) := by decide +kernel
theorem dX11_canProve_152 : decode cX11_canProve 152 = .ok (.invokevirtual 447, 3) := by decide +kernel
theorem dX11_canProve_155 : decode cX11_canProve 155 = .ok (.ifCond .ne 5, 3) := by decide +kernel
theorem dX11_canProve_158 : decode cX11_canProve 158 = .ok (.iconst 0, 1) := by decide +kernel
theorem dX11_canProve_159 : decode cX11_canProve 159 = .ok (.ireturn, 1) := by decide +kernel
theorem dX11_canProve_160 : decode cX11_canProve 160 = .ok (.aload_n 0, 1) := by decide +kernel
theorem dX11_canProve_161 : decode cX11_canProve 161 = .ok (.iload_n 1, 1) := by decide +kernel
theorem dX11_canProve_162 : decode cX11_canProve 162 = .ok (.iload_n 2, 1) := by decide +kernel
theorem dX11_canProve_163 : decode cX11_canProve 163 = .ok (.iload 4, 2) := by decide +kernel
theorem dX11_canProve_165 : decode cX11_canProve 165 = .ok (.invokevirtual 441, 3) := by decide +kernel
theorem dX11_canProve_168 : decode cX11_canProve 168 = .ok (.istore 8, 2) := by decide +kernel
theorem dX11_canProve_170 : decode cX11_canProve 170 = .ok (.aload_n 0, 1) := by decide +kernel
theorem dX11_canProve_171 : decode cX11_canProve 171 = .ok (.iload_n 2, 1) := by decide +kernel
theorem dX11_canProve_172 : decode cX11_canProve 172 = .ok (.aload_n 0, 1) := by decide +kernel
theorem dX11_canProve_173 : decode cX11_canProve 173 = .ok (.iload_n 2, 1) := by decide +kernel
theorem dX11_canProve_174 : decode cX11_canProve 174 = .ok (.iload 8, 2) := by decide +kernel
theorem dX11_canProve_176 : decode cX11_canProve 176 = .ok (.iload 7, 2) := by decide +kernel
theorem dX11_canProve_178 : decode cX11_canProve 178 = .ok (.invokevirtual 444, 3) := by decide +kernel
theorem dX11_canProve_181 : decode cX11_canProve 181 = .ok (.iload_n 3, 1) := by decide +kernel
theorem dX11_canProve_182 : decode cX11_canProve 182 = .ok (.invokevirtual 447, 3) := by decide +kernel
theorem dX11_canProve_185 : decode cX11_canProve 185 = .ok (.ireturn, 1) := by decide +kernel
theorem dX11_canProve_186 : decode cX11_canProve 186 = .ok (.aload_n 0, 1) := by decide +kernel
theorem dX11_canProve_187 : decode cX11_canProve 187 = .ok (.getfield 13, 3) := by decide +kernel
theorem dX11_canProve_190 : decode cX11_canProve 190 = .ok (.iload 5, 2) := by decide +kernel
theorem dX11_canProve_192 : decode cX11_canProve 192 = .ok (.iaload, 1) := by decide +kernel
theorem dX11_canProve_193 : decode cX11_canProve 193 = .ok (.bipush 9, 2) := by decide +kernel
theorem dX11_canProve_195 : decode cX11_canProve 195 = .ok (.if_icmp .eq 6, 3) := by decide +kernel
theorem dX11_canProve_198 : decode cX11_canProve 198 = .ok (.goto 192, 3) := by decide +kernel
theorem dX11_canProve_201 : decode cX11_canProve 201 = .ok (.aload_n 0, 1) := by decide +kernel
theorem dX11_canProve_202 : decode cX11_canProve 202 = .ok (.getfield 13, 3) := by decide +kernel
theorem dX11_canProve_205 : decode cX11_canProve 205 = .ok (.iload 6, 2) := by decide +kernel
theorem dX11_canProve_207 : decode cX11_canProve 207 = .ok (.iaload, 1) := by decide +kernel
theorem dX11_canProve_208 : decode cX11_canProve 208 = .ok (.bipush 8, 2) := by decide +kernel
theorem dX11_canProve_210 : decode cX11_canProve 210 = .ok (.if_icmp .ge 14, 3) := by decide +kernel
theorem dX11_canProve_213 : decode cX11_canProve 213 = .ok (.aload_n 0, 1) := by decide +kernel
theorem dX11_canProve_214 : decode cX11_canProve 214 = .ok (.iload_n 1, 1) := by decide +kernel
theorem dX11_canProve_215 : decode cX11_canProve 215 = .ok (.iload_n 2, 1) := by decide +kernel
theorem dX11_canProve_216 : decode cX11_canProve 216 = .ok (.iload 6, 2) := by decide +kernel
theorem dX11_canProve_218 : decode cX11_canProve 218 = .ok (.invokevirtual 438, 3) := by decide +kernel
theorem dX11_canProve_221 : decode cX11_canProve 221 = .ok (.ifCond .eq 169, 3) := by decide +kernel
theorem dX11_canProve_224 : decode cX11_canProve 224 = .ok (.aload_n 0, 1) := by decide +kernel
theorem dX11_canProve_225 : decode cX11_canProve 225 = .ok (.getfield 13, 3) := by decide +kernel
theorem dX11_canProve_228 : decode cX11_canProve 228 = .ok (.iload 6, 2) := by decide +kernel
theorem dX11_canProve_230 : decode cX11_canProve 230 = .ok (.iaload, 1) := by decide +kernel
theorem dX11_canProve_231 : decode cX11_canProve 231 = .ok (.bipush 9, 2) := by decide +kernel
theorem dX11_canProve_233 : decode cX11_canProve 233 = .ok (.if_icmp .ne 6, 3) := by decide +kernel
theorem dX11_canProve_236 : decode cX11_canProve 236 = .ok (.goto 154, 3) := by decide +kernel
theorem dX11_canProve_239 : decode cX11_canProve 239 = .ok (.aload_n 0, 1) := by decide +kernel
theorem dX11_canProve_240 : decode cX11_canProve 240 = .ok (.iload_n 1, 1) := by decide +kernel
theorem dX11_canProve_241 : decode cX11_canProve 241 = .ok (.iload_n 2, 1) := by decide +kernel
theorem dX11_canProve_242 : decode cX11_canProve 242 = .ok (.iload 4, 2) := by decide +kernel
theorem dX11_canProve_244 : decode cX11_canProve 244 = .ok (.invokevirtual 441, 3) := by decide +kernel
theorem dX11_canProve_247 : decode cX11_canProve 247 = .ok (.istore 8, 2) := by decide +kernel
theorem dX11_canProve_249 : decode cX11_canProve 249 = .ok (.aload_n 0, 1) := by decide +kernel
theorem dX11_canProve_250 : decode cX11_canProve 250 = .ok (.getfield 13, 3) := by decide +kernel
theorem dX11_canProve_253 : decode cX11_canProve 253 = .ok (.iload 6, 2) := by decide +kernel
theorem dX11_canProve_255 : decode cX11_canProve 255 = .ok (.iaload, 1) := by decide +kernel
theorem dX11_canProve_256 : decode cX11_canProve 256 = .ok (.bipush 8, 2) := by decide +kernel
theorem dX11_canProve_258 : decode cX11_canProve 258 = .ok (.if_icmp .ge 14, 3) := by decide +kernel
theorem dX11_canProve_261 : decode cX11_canProve 261 = .ok (.aload_n 0, 1) := by decide +kernel
theorem dX11_canProve_262 : decode cX11_canProve 262 = .ok (.iload_n 2, 1) := by decide +kernel
theorem dX11_canProve_263 : decode cX11_canProve 263 = .ok (.iload 8, 2) := by decide +kernel
theorem dX11_canProve_265 : decode cX11_canProve 265 = .ok (.iload 7, 2) := by decide +kernel
theorem dX11_canProve_267 : decode cX11_canProve 267 = .ok (.invokevirtual 444, 3) := by decide +kernel
theorem dX11_canProve_270 : decode cX11_canProve 270 = .ok (.istore 8, 2) := by decide +kernel
theorem dX11_canProve_272 : decode cX11_canProve 272 = .ok (.aload_n 0, 1) := by decide +kernel
theorem dX11_canProve_273 : decode cX11_canProve 273 = .ok (.getfield 13, 3) := by decide +kernel
theorem dX11_canProve_276 : decode cX11_canProve 276 = .ok (.iload 6, 2) := by decide +kernel
theorem dX11_canProve_278 : decode cX11_canProve 278 = .ok (.iaload, 1) := by decide +kernel
theorem dX11_canProve_279 : decode cX11_canProve 279 = .ok (.bipush 10, 2) := by decide +kernel
theorem dX11_canProve_281 : decode cX11_canProve 281 = .ok (.if_icmp .ne 40, 3) := by decide +kernel
theorem dX11_canProve_284 : decode cX11_canProve 284 = .ok (.aload_n 0, 1) := by decide +kernel
theorem dX11_canProve_285 : decode cX11_canProve 285 = .ok (.iload_n 2, 1) := by decide +kernel
theorem dX11_canProve_286 : decode cX11_canProve 286 = .ok (.iload 8, 2) := by decide +kernel
theorem dX11_canProve_288 : decode cX11_canProve 288 = .ok (.aload_n 0, 1) := by decide +kernel
theorem dX11_canProve_289 : decode cX11_canProve 289 = .ok (.bipush 9, 2) := by decide +kernel
theorem dX11_canProve_291 : decode cX11_canProve 291 = .ok (.aload_n 0, 1) := by decide +kernel
theorem dX11_canProve_292 : decode cX11_canProve 292 = .ok (.getfield 17, 3) := by decide +kernel
theorem dX11_canProve_295 : decode cX11_canProve 295 = .ok (.iload 6, 2) := by decide +kernel
theorem dX11_canProve_297 : decode cX11_canProve 297 = .ok (.iaload, 1) := by decide +kernel
theorem dX11_canProve_298 : decode cX11_canProve 298 = .ok (.aload_n 0, 1) := by decide +kernel
theorem dX11_canProve_299 : decode cX11_canProve 299 = .ok (.bipush 9, 2) := by decide +kernel
theorem dX11_canProve_301 : decode cX11_canProve 301 = .ok (.aload_n 0, 1) := by decide +kernel
theorem dX11_canProve_302 : decode cX11_canProve 302 = .ok (.getfield 20, 3) := by decide +kernel
theorem dX11_canProve_305 : decode cX11_canProve 305 = .ok (.iload 6, 2) := by decide +kernel
theorem dX11_canProve_307 : decode cX11_canProve 307 = .ok (.iaload, 1) := by decide +kernel
theorem dX11_canProve_308 : decode cX11_canProve 308 = .ok (.iload 7, 2) := by decide +kernel
theorem dX11_canProve_310 : decode cX11_canProve 310 = .ok (.invokevirtual 130, 3) := by decide +kernel
theorem dX11_canProve_313 : decode cX11_canProve 313 = .ok (.invokevirtual 130, 3) := by decide +kernel
theorem dX11_canProve_316 : decode cX11_canProve 316 = .ok (.invokevirtual 444, 3) := by decide +kernel
theorem dX11_canProve_319 : decode cX11_canProve 319 = .ok (.istore 8, 2) := by decide +kernel
theorem dX11_canProve_321 : decode cX11_canProve 321 = .ok (.aload_n 0, 1) := by decide +kernel
theorem dX11_canProve_322 : decode cX11_canProve 322 = .ok (.getfield 13, 3) := by decide +kernel
theorem dX11_canProve_325 : decode cX11_canProve 325 = .ok (.iload 6, 2) := by decide +kernel
theorem dX11_canProve_327 : decode cX11_canProve 327 = .ok (.iaload, 1) := by decide +kernel
theorem dX11_canProve_328 : decode cX11_canProve 328 = .ok (.bipush 11, 2) := by decide +kernel
theorem dX11_canProve_330 : decode cX11_canProve 330 = .ok (.if_icmp .ne 51, 3) := by decide +kernel
theorem dX11_canProve_333 : decode cX11_canProve 333 = .ok (.aload_n 0, 1) := by decide +kernel
theorem dX11_canProve_334 : decode cX11_canProve 334 = .ok (.iload_n 2, 1) := by decide +kernel
theorem dX11_canProve_335 : decode cX11_canProve 335 = .ok (.iload 8, 2) := by decide +kernel
theorem dX11_canProve_337 : decode cX11_canProve 337 = .ok (.aload_n 0, 1) := by decide +kernel
theorem dX11_canProve_338 : decode cX11_canProve 338 = .ok (.bipush 9, 2) := by decide +kernel
theorem dX11_canProve_340 : decode cX11_canProve 340 = .ok (.aload_n 0, 1) := by decide +kernel
theorem dX11_canProve_341 : decode cX11_canProve 341 = .ok (.getfield 17, 3) := by decide +kernel
theorem dX11_canProve_344 : decode cX11_canProve 344 = .ok (.iload 6, 2) := by decide +kernel
theorem dX11_canProve_346 : decode cX11_canProve 346 = .ok (.iaload, 1) := by decide +kernel
theorem dX11_canProve_347 : decode cX11_canProve 347 = .ok (.iload 7, 2) := by decide +kernel
theorem dX11_canProve_349 : decode cX11_canProve 349 = .ok (.invokevirtual 130, 3) := by decide +kernel
theorem dX11_canProve_352 : decode cX11_canProve 352 = .ok (.invokevirtual 444, 3) := by decide +kernel
theorem dX11_canProve_355 : decode cX11_canProve 355 = .ok (.istore 8, 2) := by decide +kernel
theorem dX11_canProve_357 : decode cX11_canProve 357 = .ok (.aload_n 0, 1) := by decide +kernel
theorem dX11_canProve_358 : decode cX11_canProve 358 = .ok (.iload_n 2, 1) := by decide +kernel
theorem dX11_canProve_359 : decode cX11_canProve 359 = .ok (.iload 8, 2) := by decide +kernel
theorem dX11_canProve_361 : decode cX11_canProve 361 = .ok (.aload_n 0, 1) := by decide +kernel
theorem dX11_canProve_362 : decode cX11_canProve 362 = .ok (.bipush 9, 2) := by decide +kernel
theorem dX11_canProve_364 : decode cX11_canProve 364 = .ok (.aload_n 0, 1) := by decide +kernel
theorem dX11_canProve_365 : decode cX11_canProve 365 = .ok (.getfield 20, 3) := by decide +kernel
theorem dX11_canProve_368 : decode cX11_canProve 368 = .ok (.iload 6, 2) := by decide +kernel
theorem dX11_canProve_370 : decode cX11_canProve 370 = .ok (.iaload, 1) := by decide +kernel
theorem dX11_canProve_371 : decode cX11_canProve 371 = .ok (.iload 7, 2) := by decide +kernel
theorem dX11_canProve_373 : decode cX11_canProve 373 = .ok (.invokevirtual 130, 3) := by decide +kernel
theorem dX11_canProve_376 : decode cX11_canProve 376 = .ok (.invokevirtual 444, 3) := by decide +kernel
theorem dX11_canProve_379 : decode cX11_canProve 379 = .ok (.istore 8, 2) := by decide +kernel
theorem dX11_canProve_381 : decode cX11_canProve 381 = .ok (.aload_n 0, 1) := by decide +kernel
theorem dX11_canProve_382 : decode cX11_canProve 382 = .ok (.iload_n 2, 1) := by decide +kernel
theorem dX11_canProve_383 : decode cX11_canProve 383 = .ok (.iload 8, 2) := by decide +kernel
theorem dX11_canProve_385 : decode cX11_canProve 385 = .ok (.iload_n 3, 1) := by decide +kernel
theorem dX11_canProve_386 : decode cX11_canProve 386 = .ok (.invokevirtual 447, 3) := by decide +kernel
theorem dX11_canProve_389 : decode cX11_canProve 389 = .ok (.ireturn, 1) := by decide +kernel
theorem dX11_canProve_390 : decode cX11_canProve 390 = .ok (.iinc 4 1, 3) := by decide +kernel
theorem dX11_canProve_393 : decode cX11_canProve 393 = .ok (.goto (-361), 3) := by decide +kernel
theorem dX11_canProve_396 : decode cX11_canProve 396 = .ok (.aload_n 0, 1) := by decide +kernel
theorem dX11_canProve_397 : decode cX11_canProve 397 = .ok (.getfield 13, 3) := by decide +kernel
theorem dX11_canProve_400 : decode cX11_canProve 400 = .ok (.iload_n 3, 1) := by decide +kernel
theorem dX11_canProve_401 : decode cX11_canProve 401 = .ok (.iaload, 1) := by decide +kernel
theorem dX11_canProve_402 : decode cX11_canProve 402 = .ok (.bipush 9, 2) := by decide +kernel
theorem dX11_canProve_404 : decode cX11_canProve 404 = .ok (.if_icmp .ne 37, 3) := by decide +kernel
theorem dX11_canProve_407 : decode cX11_canProve 407 = .ok (.aload_n 0, 1) := by decide +kernel
theorem dX11_canProve_408 : decode cX11_canProve 408 = .ok (.iload_n 1, 1) := by decide +kernel
theorem dX11_canProve_409 : decode cX11_canProve 409 = .ok (.iload_n 2, 1) := by decide +kernel
theorem dX11_canProve_410 : decode cX11_canProve 410 = .ok (.iconst (-1), 1) := by decide +kernel
theorem dX11_canProve_411 : decode cX11_canProve 411 = .ok (.invokevirtual 441, 3) := by decide +kernel
theorem dX11_canProve_414 : decode cX11_canProve 414 = .ok (.istore 4, 2) := by decide +kernel
theorem dX11_canProve_416 : decode cX11_canProve 416 = .ok (.aload_n 0, 1) := by decide +kernel
theorem dX11_canProve_417 : decode cX11_canProve 417 = .ok (.iload_n 2, 1) := by decide +kernel
theorem dX11_canProve_418 : decode cX11_canProve 418 = .ok (.aload_n 0, 1) := by decide +kernel
theorem dX11_canProve_419 : decode cX11_canProve 419 = .ok (.iload_n 2, 1) := by decide +kernel
theorem dX11_canProve_420 : decode cX11_canProve 420 = .ok (.iload 4, 2) := by decide +kernel
theorem dX11_canProve_422 : decode cX11_canProve 422 = .ok (.aload_n 0, 1) := by decide +kernel
theorem dX11_canProve_423 : decode cX11_canProve 423 = .ok (.getfield 17, 3) := by decide +kernel
theorem dX11_canProve_426 : decode cX11_canProve 426 = .ok (.iload_n 3, 1) := by decide +kernel
theorem dX11_canProve_427 : decode cX11_canProve 427 = .ok (.iaload, 1) := by decide +kernel
theorem dX11_canProve_428 : decode cX11_canProve 428 = .ok (.invokevirtual 444, 3) := by decide +kernel
theorem dX11_canProve_431 : decode cX11_canProve 431 = .ok (.aload_n 0, 1) := by decide +kernel
theorem dX11_canProve_432 : decode cX11_canProve 432 = .ok (.getfield 20, 3) := by decide +kernel
theorem dX11_canProve_435 : decode cX11_canProve 435 = .ok (.iload_n 3, 1) := by decide +kernel
theorem dX11_canProve_436 : decode cX11_canProve 436 = .ok (.iaload, 1) := by decide +kernel
theorem dX11_canProve_437 : decode cX11_canProve 437 = .ok (.invokevirtual 447, 3) := by decide +kernel
theorem dX11_canProve_440 : decode cX11_canProve 440 = .ok (.ireturn, 1) := by decide +kernel
theorem dX11_canProve_441 : decode cX11_canProve 441 = .ok (.aload_n 0, 1) := by decide +kernel
theorem dX11_canProve_442 : decode cX11_canProve 442 = .ok (.getfield 13, 3) := by decide +kernel
theorem dX11_canProve_445 : decode cX11_canProve 445 = .ok (.iload_n 3, 1) := by decide +kernel
theorem dX11_canProve_446 : decode cX11_canProve 446 = .ok (.iaload, 1) := by decide +kernel
theorem dX11_canProve_447 : decode cX11_canProve 447 = .ok (.bipush 10, 2) := by decide +kernel
theorem dX11_canProve_449 : decode cX11_canProve 449 = .ok (.if_icmp .ne 39, 3) := by decide +kernel
theorem dX11_canProve_452 : decode cX11_canProve 452 = .ok (.aload_n 0, 1) := by decide +kernel
theorem dX11_canProve_453 : decode cX11_canProve 453 = .ok (.iload_n 1, 1) := by decide +kernel
theorem dX11_canProve_454 : decode cX11_canProve 454 = .ok (.iload_n 2, 1) := by decide +kernel
theorem dX11_canProve_455 : decode cX11_canProve 455 = .ok (.aload_n 0, 1) := by decide +kernel
theorem dX11_canProve_456 : decode cX11_canProve 456 = .ok (.getfield 17, 3) := by decide +kernel
theorem dX11_canProve_459 : decode cX11_canProve 459 = .ok (.iload_n 3, 1) := by decide +kernel
theorem dX11_canProve_460 : decode cX11_canProve 460 = .ok (.iaload, 1) := by decide +kernel
theorem dX11_canProve_461 : decode cX11_canProve 461 = .ok (.invokevirtual 447, 3) := by decide +kernel
theorem dX11_canProve_464 : decode cX11_canProve 464 = .ok (.ifCond .eq 22, 3) := by decide +kernel
theorem dX11_canProve_467 : decode cX11_canProve 467 = .ok (.aload_n 0, 1) := by decide +kernel
theorem dX11_canProve_468 : decode cX11_canProve 468 = .ok (.iload_n 1, 1) := by decide +kernel
theorem dX11_canProve_469 : decode cX11_canProve 469 = .ok (.iload_n 2, 1) := by decide +kernel
theorem dX11_canProve_470 : decode cX11_canProve 470 = .ok (.aload_n 0, 1) := by decide +kernel
theorem dX11_canProve_471 : decode cX11_canProve 471 = .ok (.getfield 20, 3) := by decide +kernel
theorem dX11_canProve_474 : decode cX11_canProve 474 = .ok (.iload_n 3, 1) := by decide +kernel
theorem dX11_canProve_475 : decode cX11_canProve 475 = .ok (.iaload, 1) := by decide +kernel
theorem dX11_canProve_476 : decode cX11_canProve 476 = .ok (.invokevirtual 447, 3) := by decide +kernel
theorem dX11_canProve_479 : decode cX11_canProve 479 = .ok (.ifCond .eq 7, 3) := by decide +kernel
theorem dX11_canProve_482 : decode cX11_canProve 482 = .ok (.iconst 1, 1) := by decide +kernel
theorem dX11_canProve_483 : decode cX11_canProve 483 = .ok (.goto 4, 3) := by decide +kernel
theorem dX11_canProve_486 : decode cX11_canProve 486 = .ok (.iconst 0, 1) := by decide +kernel
theorem dX11_canProve_487 : decode cX11_canProve 487 = .ok (.ireturn, 1) := by decide +kernel
theorem dX11_canProve_488 : decode cX11_canProve 488 = .ok (.aload_n 0, 1) := by decide +kernel
theorem dX11_canProve_489 : decode cX11_canProve 489 = .ok (.getfield 13, 3) := by decide +kernel
theorem dX11_canProve_492 : decode cX11_canProve 492 = .ok (.iload_n 3, 1) := by decide +kernel
theorem dX11_canProve_493 : decode cX11_canProve 493 = .ok (.iaload, 1) := by decide +kernel
theorem dX11_canProve_494 : decode cX11_canProve 494 = .ok (.bipush 11, 2) := by decide +kernel
theorem dX11_canProve_496 : decode cX11_canProve 496 = .ok (.if_icmp .ne 35, 3) := by decide +kernel
theorem dX11_canProve_499 : decode cX11_canProve 499 = .ok (.aload_n 0, 1) := by decide +kernel
theorem dX11_canProve_500 : decode cX11_canProve 500 = .ok (.iload_n 1, 1) := by decide +kernel
theorem dX11_canProve_501 : decode cX11_canProve 501 = .ok (.iload_n 2, 1) := by decide +kernel
theorem dX11_canProve_502 : decode cX11_canProve 502 = .ok (.aload_n 0, 1) := by decide +kernel
theorem dX11_canProve_503 : decode cX11_canProve 503 = .ok (.getfield 17, 3) := by decide +kernel
theorem dX11_canProve_506 : decode cX11_canProve 506 = .ok (.iload_n 3, 1) := by decide +kernel
theorem dX11_canProve_507 : decode cX11_canProve 507 = .ok (.iaload, 1) := by decide +kernel
theorem dX11_canProve_508 : decode cX11_canProve 508 = .ok (.invokevirtual 447, 3) := by decide +kernel
theorem dX11_canProve_511 : decode cX11_canProve 511 = .ok (.ifCond .ne 18, 3) := by decide +kernel
theorem dX11_canProve_514 : decode cX11_canProve 514 = .ok (.aload_n 0, 1) := by decide +kernel
theorem dX11_canProve_515 : decode cX11_canProve 515 = .ok (.iload_n 1, 1) := by decide +kernel
theorem dX11_canProve_516 : decode cX11_canProve 516 = .ok (.iload_n 2, 1) := by decide +kernel
theorem dX11_canProve_517 : decode cX11_canProve 517 = .ok (.aload_n 0, 1) := by decide +kernel
theorem dX11_canProve_518 : decode cX11_canProve 518 = .ok (.getfield 20, 3) := by decide +kernel
theorem dX11_canProve_521 : decode cX11_canProve 521 = .ok (.iload_n 3, 1) := by decide +kernel
theorem dX11_canProve_522 : decode cX11_canProve 522 = .ok (.iaload, 1) := by decide +kernel
theorem dX11_canProve_523 : decode cX11_canProve 523 = .ok (.invokevirtual 447, 3) := by decide +kernel
theorem dX11_canProve_526 : decode cX11_canProve 526 = .ok (.ifCond .eq 5, 3) := by decide +kernel
theorem dX11_canProve_529 : decode cX11_canProve 529 = .ok (.iconst 1, 1) := by decide +kernel
theorem dX11_canProve_530 : decode cX11_canProve 530 = .ok (.ireturn, 1) := by decide +kernel
theorem dX11_canProve_531 : decode cX11_canProve 531 = .ok (.aload_n 0, 1) := by decide +kernel
theorem dX11_canProve_532 : decode cX11_canProve 532 = .ok (.iload_n 1, 1) := by decide +kernel
theorem dX11_canProve_533 : decode cX11_canProve 533 = .ok (.iload_n 2, 1) := by decide +kernel
theorem dX11_canProve_534 : decode cX11_canProve 534 = .ok (.iload_n 3, 1) := by decide +kernel
theorem dX11_canProve_535 : decode cX11_canProve 535 = .ok (.invokevirtual 450, 3) := by decide +kernel
theorem dX11_canProve_538 : decode cX11_canProve 538 = .ok (.ireturn, 1) := by decide +kernel
theorem dX11_byOne_0 : decode cX11_byOne 0 = .ok (.iload_n 1, 1) := by decide +kernel
theorem dX11_byOne_1 : decode cX11_byOne 1 = .ok (.istore 4, 2) := by decide +kernel
theorem dX11_byOne_3 : decode cX11_byOne 3 = .ok (.iload 4, 2) := by decide +kernel
theorem dX11_byOne_5 : decode cX11_byOne 5 = .ok (.iload_n 2, 1) := by decide +kernel
theorem dX11_byOne_6 : decode cX11_byOne 6 = .ok (.if_icmp .ge 169, 3) := by decide +kernel
theorem dX11_byOne_9 : decode cX11_byOne 9 = .ok (.aload_n 0, 1) := by decide +kernel
theorem dX11_byOne_10 : decode cX11_byOne 10 = .ok (.getfield 124, 3) := by decide +kernel
theorem dX11_byOne_13 : decode cX11_byOne 13 = .ok (.iload 4, 2) := by decide +kernel
theorem dX11_byOne_15 : decode cX11_byOne 15 = .ok (.iaload, 1) := by decide +kernel
theorem dX11_byOne_16 : decode cX11_byOne 16 = .ok (.istore 5, 2) := by decide +kernel
theorem dX11_byOne_18 : decode cX11_byOne 18 = .ok (.aload_n 0, 1) := by decide +kernel
theorem dX11_byOne_19 : decode cX11_byOne 19 = .ok (.getfield 13, 3) := by decide +kernel
theorem dX11_byOne_22 : decode cX11_byOne 22 = .ok (.iload 5, 2) := by decide +kernel
theorem dX11_byOne_24 : decode cX11_byOne 24 = .ok (.iaload, 1) := by decide +kernel
theorem dX11_byOne_25 : decode cX11_byOne 25 = .ok (.bipush 9, 2) := by decide +kernel
theorem dX11_byOne_27 : decode cX11_byOne 27 = .ok (.if_icmp .ne 142, 3) := by decide +kernel
theorem dX11_byOne_30 : decode cX11_byOne 30 = .ok (.aload_n 0, 1) := by decide +kernel
theorem dX11_byOne_31 : decode cX11_byOne 31 = .ok (.getfield 13, 3) := by decide +kernel
theorem dX11_byOne_34 : decode cX11_byOne 34 = .ok (.aload_n 0, 1) := by decide +kernel
theorem dX11_byOne_35 : decode cX11_byOne 35 = .ok (.getfield 17, 3) := by decide +kernel
theorem dX11_byOne_38 : decode cX11_byOne 38 = .ok (.iload 5, 2) := by decide +kernel
theorem dX11_byOne_40 : decode cX11_byOne 40 = .ok (.iaload, 1) := by decide +kernel
theorem dX11_byOne_41 : decode cX11_byOne 41 = .ok (.iaload, 1) := by decide +kernel
theorem dX11_byOne_42 : decode cX11_byOne 42 = .ok (.bipush 9, 2) := by decide +kernel
theorem dX11_byOne_44 : decode cX11_byOne 44 = .ok (.if_icmp .eq 6, 3) := by decide +kernel
theorem dX11_byOne_47 : decode cX11_byOne 47 = .ok (.goto 122, 3) := by decide +kernel
theorem dX11_byOne_50 : decode cX11_byOne 50 = .ok (.aload_n 0, 1) := by decide +kernel
theorem dX11_byOne_51 : decode cX11_byOne 51 = .ok (.getfield 17, 3) := by decide +kernel
theorem dX11_byOne_54 : decode cX11_byOne 54 = .ok (.aload_n 0, 1) := by decide +kernel
theorem dX11_byOne_55 : decode cX11_byOne 55 = .ok (.getfield 17, 3) := by decide +kernel
theorem dX11_byOne_58 : decode cX11_byOne 58 = .ok (.iload 5, 2) := by decide +kernel
theorem dX11_byOne_60 : decode cX11_byOne 60 = .ok (.iaload, 1) := by decide +kernel
theorem dX11_byOne_61 : decode cX11_byOne 61 = .ok (.iaload, 1) := by decide +kernel
theorem dX11_byOne_62 : decode cX11_byOne 62 = .ok (.istore 6, 2) := by decide +kernel
theorem dX11_byOne_64 : decode cX11_byOne 64 = .ok (.aload_n 0, 1) := by decide +kernel
theorem dX11_byOne_65 : decode cX11_byOne 65 = .ok (.getfield 20, 3) := by decide +kernel
theorem dX11_byOne_68 : decode cX11_byOne 68 = .ok (.aload_n 0, 1) := by decide +kernel
theorem dX11_byOne_69 : decode cX11_byOne 69 = .ok (.getfield 17, 3) := by decide +kernel
theorem dX11_byOne_72 : decode cX11_byOne 72 = .ok (.iload 5, 2) := by decide +kernel
theorem dX11_byOne_74 : decode cX11_byOne 74 = .ok (.iaload, 1) := by decide +kernel
theorem dX11_byOne_75 : decode cX11_byOne 75 = .ok (.iaload, 1) := by decide +kernel
theorem dX11_byOne_76 : decode cX11_byOne 76 = .ok (.istore 7, 2) := by decide +kernel
theorem dX11_byOne_78 : decode cX11_byOne 78 = .ok (.aload_n 0, 1) := by decide +kernel
theorem dX11_byOne_79 : decode cX11_byOne 79 = .ok (.iload_n 1, 1) := by decide +kernel
theorem dX11_byOne_80 : decode cX11_byOne 80 = .ok (.iload_n 2, 1) := by decide +kernel
theorem dX11_byOne_81 : decode cX11_byOne 81 = .ok (.iload 4, 2) := by decide +kernel
theorem dX11_byOne_83 : decode cX11_byOne 83 = .ok (.invokevirtual 441, 3) := by decide +kernel
theorem dX11_byOne_86 : decode cX11_byOne 86 = .ok (.istore 8, 2) := by decide +kernel
theorem dX11_byOne_88 : decode cX11_byOne 88 = .ok (.aload_n 0, 1) := by decide +kernel
theorem dX11_byOne_89 : decode cX11_byOne 89 = .ok (.iload_n 2, 1) := by decide +kernel
theorem dX11_byOne_90 : decode cX11_byOne 90 = .ok (.iload 8, 2) := by decide +kernel
theorem dX11_byOne_92 : decode cX11_byOne 92 = .ok (.iload 6, 2) := by decide +kernel
theorem dX11_byOne_94 : decode cX11_byOne 94 = .ok (.invokevirtual 444, 3) := by decide +kernel
theorem dX11_byOne_97 : decode cX11_byOne 97 = .ok (.istore 8, 2) := by decide +kernel
theorem dX11_byOne_99 : decode cX11_byOne 99 = .ok (.aload_n 0, 1) := by decide +kernel
theorem dX11_byOne_100 : decode cX11_byOne 100 = .ok (.iload_n 2, 1) := by decide +kernel
theorem dX11_byOne_101 : decode cX11_byOne 101 = .ok (.iload 8, 2) := by decide +kernel
theorem dX11_byOne_103 : decode cX11_byOne 103 = .ok (.aload_n 0, 1) := by decide +kernel
theorem dX11_byOne_104 : decode cX11_byOne 104 = .ok (.bipush 9, 2) := by decide +kernel
theorem dX11_byOne_106 : decode cX11_byOne 106 = .ok (.iload 7, 2) := by decide +kernel
theorem dX11_byOne_108 : decode cX11_byOne 108 = .ok (.aload_n 0, 1) := by decide +kernel
theorem dX11_byOne_109 : decode cX11_byOne 109 = .ok (.getfield 20, 3) := by decide +kernel
theorem dX11_byOne_112 : decode cX11_byOne 112 = .ok (.iload 5, 2) := by decide +kernel
theorem dX11_byOne_114 : decode cX11_byOne 114 = .ok (.iaload, 1) := by decide +kernel
theorem dX11_byOne_115 : decode cX11_byOne 115 = .ok (.invokevirtual 130, 3) := by decide +kernel
theorem dX11_byOne_118 : decode cX11_byOne 118 = .ok (.invokevirtual 444, 3) := by decide +kernel
theorem dX11_byOne_121 : decode cX11_byOne 121 = .ok (.istore 8, 2) := by decide +kernel
theorem dX11_byOne_123 : decode cX11_byOne 123 = .ok (.aload_n 0, 1) := by decide +kernel
theorem dX11_byOne_124 : decode cX11_byOne 124 = .ok (.iload_n 2, 1) := by decide +kernel
theorem dX11_byOne_125 : decode cX11_byOne 125 = .ok (.iload 8, 2) := by decide +kernel
theorem dX11_byOne_127 : decode cX11_byOne 127 = .ok (.iload 7, 2) := by decide +kernel
theorem dX11_byOne_129 : decode cX11_byOne 129 = .ok (.invokevirtual 447, 3) := by decide +kernel
theorem dX11_byOne_132 : decode cX11_byOne 132 = .ok (.ifCond .ne 6, 3) := by decide +kernel
theorem dX11_byOne_135 : decode cX11_byOne 135 = .ok (.goto 34, 3) := by decide +kernel
theorem dX11_byOne_138 : decode cX11_byOne 138 = .ok (.aload_n 0, 1) := by decide +kernel
theorem dX11_byOne_139 : decode cX11_byOne 139 = .ok (.iload_n 1, 1) := by decide +kernel
theorem dX11_byOne_140 : decode cX11_byOne 140 = .ok (.iload_n 2, 1) := by decide +kernel
theorem dX11_byOne_141 : decode cX11_byOne 141 = .ok (.iload 4, 2) := by decide +kernel
theorem dX11_byOne_143 : decode cX11_byOne 143 = .ok (.invokevirtual 441, 3) := by decide +kernel
theorem dX11_byOne_146 : decode cX11_byOne 146 = .ok (.istore 8, 2) := by decide +kernel
theorem dX11_byOne_148 : decode cX11_byOne 148 = .ok (.aload_n 0, 1) := by decide +kernel
theorem dX11_byOne_149 : decode cX11_byOne 149 = .ok (.iload_n 2, 1) := by decide +kernel
theorem dX11_byOne_150 : decode cX11_byOne 150 = .ok (.aload_n 0, 1) := by decide +kernel
theorem dX11_byOne_151 : decode cX11_byOne 151 = .ok (.iload_n 2, 1) := by decide +kernel
theorem dX11_byOne_152 : decode cX11_byOne 152 = .ok (.iload 8, 2) := by decide +kernel
theorem dX11_byOne_154 : decode cX11_byOne 154 = .ok (.aload_n 0, 1) := by decide +kernel
theorem dX11_byOne_155 : decode cX11_byOne 155 = .ok (.getfield 20, 3) := by decide +kernel
theorem dX11_byOne_158 : decode cX11_byOne 158 = .ok (.iload 5, 2) := by decide +kernel
theorem dX11_byOne_160 : decode cX11_byOne 160 = .ok (.iaload, 1) := by decide +kernel
theorem dX11_byOne_161 : decode cX11_byOne 161 = .ok (.invokevirtual 444, 3) := by decide +kernel
theorem dX11_byOne_164 : decode cX11_byOne 164 = .ok (.iload_n 3, 1) := by decide +kernel
theorem dX11_byOne_165 : decode cX11_byOne 165 = .ok (.invokevirtual 447, 3) := by decide +kernel
theorem dX11_byOne_168 : decode cX11_byOne 168 = .ok (.ireturn, 1) := by decide +kernel
theorem dX11_byOne_169 : decode cX11_byOne 169 = .ok (.iinc 4 1, 3) := by decide +kernel
theorem dX11_byOne_172 : decode cX11_byOne 172 = .ok (.goto (-169), 3) := by decide +kernel
theorem dX11_byOne_175 : decode cX11_byOne 175 = .ok (.iconst 0, 1) := by decide +kernel
theorem dX11_byOne_176 : decode cX11_byOne 176 = .ok (.ireturn, 1) := by decide +kernel
theorem dX11_provableBy_0 : decode cX11_provableBy 0 = .ok (.aload_n 0, 1) := by decide +kernel
theorem dX11_provableBy_1 : decode cX11_provableBy 1 = .ok (.aload_n 0, 1) := by decide +kernel
theorem dX11_provableBy_2 : decode cX11_provableBy 2 = .ok (.getfield 134, 3) := by decide +kernel
theorem dX11_provableBy_5 : decode cX11_provableBy 5 = .ok (.invokevirtual 435, 3) := by decide +kernel
theorem dX11_provableBy_8 : decode cX11_provableBy 8 = .ok (.istore_n 2, 1) := by decide +kernel
theorem dX11_provableBy_9 : decode cX11_provableBy 9 = .ok (.iconst 0, 1) := by decide +kernel
theorem dX11_provableBy_10 : decode cX11_provableBy 10 = .ok (.istore_n 3, 1) := by decide +kernel
theorem dX11_provableBy_11 : decode cX11_provableBy 11 = .ok (.iload_n 3, 1) := by decide +kernel
theorem dX11_provableBy_12 : decode cX11_provableBy 12 = .ok (.aload_n 0, 1) := by decide +kernel
theorem dX11_provableBy_13 : decode cX11_provableBy 13 = .ok (.getfield 144, 3) := by decide +kernel
theorem dX11_provableBy_16 : decode cX11_provableBy 16 = .ok (.if_icmp .ge 22, 3) := by decide +kernel
theorem dX11_provableBy_19 : decode cX11_provableBy 19 = .ok (.iload_n 2, 1) := by decide +kernel
theorem dX11_provableBy_20 : decode cX11_provableBy 20 = .ok (.aload_n 0, 1) := by decide +kernel
theorem dX11_provableBy_21 : decode cX11_provableBy 21 = .ok (.aload_n 0, 1) := by decide +kernel
theorem dX11_provableBy_22 : decode cX11_provableBy 22 = .ok (.getfield 38, 3) := by decide +kernel
theorem dX11_provableBy_25 : decode cX11_provableBy 25 = .ok (.iload_n 3, 1) := by decide +kernel
theorem dX11_provableBy_26 : decode cX11_provableBy 26 = .ok (.iaload, 1) := by decide +kernel
theorem dX11_provableBy_27 : decode cX11_provableBy 27 = .ok (.invokevirtual 435, 3) := by decide +kernel
theorem dX11_provableBy_30 : decode cX11_provableBy 30 = .ok (.iadd, 1) := by decide +kernel
theorem dX11_provableBy_31 : decode cX11_provableBy 31 = .ok (.istore_n 2, 1) := by decide +kernel
theorem dX11_provableBy_32 : decode cX11_provableBy 32 = .ok (.iinc 3 1, 3) := by decide +kernel
theorem dX11_provableBy_35 : decode cX11_provableBy 35 = .ok (.goto (-24), 3) := by decide +kernel
theorem dX11_provableBy_38 : decode cX11_provableBy 38 = .ok (.iload_n 2, 1) := by decide +kernel
theorem dX11_provableBy_39 : decode cX11_provableBy 39 = .ok (.bipush 40, 2) := by decide +kernel
theorem dX11_provableBy_41 : decode cX11_provableBy 41 = .ok (.if_icmp .le 6, 3) := by decide +kernel
theorem dX11_provableBy_44 : decode cX11_provableBy 44 = .ok (.bipush (-4), 2) := by decide +kernel
theorem dX11_provableBy_46 : decode cX11_provableBy 46 = .ok (.ireturn, 1) := by decide +kernel
theorem dX11_provableBy_47 : decode cX11_provableBy 47 = .ok (.aload_n 0, 1) := by decide +kernel
theorem dX11_provableBy_48 : decode cX11_provableBy 48 = .ok (.iconst 0, 1) := by decide +kernel
theorem dX11_provableBy_49 : decode cX11_provableBy 49 = .ok (.putfield 151, 3) := by decide +kernel
theorem dX11_provableBy_52 : decode cX11_provableBy 52 = .ok (.iconst 0, 1) := by decide +kernel
theorem dX11_provableBy_53 : decode cX11_provableBy 53 = .ok (.istore_n 3, 1) := by decide +kernel
theorem dX11_provableBy_54 : decode cX11_provableBy 54 = .ok (.iconst 0, 1) := by decide +kernel
theorem dX11_provableBy_55 : decode cX11_provableBy 55 = .ok (.istore 4, 2) := by decide +kernel
theorem dX11_provableBy_57 : decode cX11_provableBy 57 = .ok (.iload 4, 2) := by decide +kernel
theorem dX11_provableBy_59 : decode cX11_provableBy 59 = .ok (.aload_n 0, 1) := by decide +kernel
theorem dX11_provableBy_60 : decode cX11_provableBy 60 = .ok (.getfield 144, 3) := by decide +kernel
theorem dX11_provableBy_63 : decode cX11_provableBy 63 = .ok (.if_icmp .ge 23, 3) := by decide +kernel
theorem dX11_provableBy_66 : decode cX11_provableBy 66 = .ok (.aload_n 0, 1) := by decide +kernel
theorem dX11_provableBy_67 : decode cX11_provableBy 67 = .ok (.iconst 0, 1) := by decide +kernel
theorem dX11_provableBy_68 : decode cX11_provableBy 68 = .ok (.iload_n 3, 1) := by decide +kernel
theorem dX11_provableBy_69 : decode cX11_provableBy 69 = .ok (.aload_n 0, 1) := by decide +kernel
theorem dX11_provableBy_70 : decode cX11_provableBy 70 = .ok (.getfield 38, 3) := by decide +kernel
theorem dX11_provableBy_73 : decode cX11_provableBy 73 = .ok (.iload 4, 2) := by decide +kernel
theorem dX11_provableBy_75 : decode cX11_provableBy 75 = .ok (.iaload, 1) := by decide +kernel
theorem dX11_provableBy_76 : decode cX11_provableBy 76 = .ok (.invokevirtual 444, 3) := by decide +kernel
theorem dX11_provableBy_79 : decode cX11_provableBy 79 = .ok (.istore_n 3, 1) := by decide +kernel
theorem dX11_provableBy_80 : decode cX11_provableBy 80 = .ok (.iinc 4 1, 3) := by decide +kernel
theorem dX11_provableBy_83 : decode cX11_provableBy 83 = .ok (.goto (-26), 3) := by decide +kernel
theorem dX11_provableBy_86 : decode cX11_provableBy 86 = .ok (.aload_n 0, 1) := by decide +kernel
theorem dX11_provableBy_87 : decode cX11_provableBy 87 = .ok (.iconst 0, 1) := by decide +kernel
theorem dX11_provableBy_88 : decode cX11_provableBy 88 = .ok (.iload_n 3, 1) := by decide +kernel
theorem dX11_provableBy_89 : decode cX11_provableBy 89 = .ok (.iload_n 1, 1) := by decide +kernel
theorem dX11_provableBy_90 : decode cX11_provableBy 90 = .ok (.invokevirtual 447, 3) := by decide +kernel
theorem dX11_provableBy_93 : decode cX11_provableBy 93 = .ok (.istore 4, 2) := by decide +kernel
theorem dX11_provableBy_95 : decode cX11_provableBy 95 = .ok (.iload 4, 2) := by decide +kernel
theorem dX11_provableBy_97 : decode cX11_provableBy 97 = .ok (.ifCond .eq 7, 3) := by decide +kernel
theorem dX11_provableBy_100 : decode cX11_provableBy 100 = .ok (.iconst 1, 1) := by decide +kernel
theorem dX11_provableBy_101 : decode cX11_provableBy 101 = .ok (.goto 4, 3) := by decide +kernel
theorem dX11_provableBy_104 : decode cX11_provableBy 104 = .ok (.iconst 0, 1) := by decide +kernel
theorem dX11_provableBy_105 : decode cX11_provableBy 105 = .ok (.ireturn, 1) := by decide +kernel
theorem dX11_provable_0 : decode cX11_provable 0 = .ok (.aload_n 0, 1) := by decide +kernel
theorem dX11_provable_1 : decode cX11_provable 1 = .ok (.iconst 0, 1) := by decide +kernel
theorem dX11_provable_2 : decode cX11_provable 2 = .ok (.putfield 1, 3) := by decide +kernel
theorem dX11_provable_5 : decode cX11_provable 5 = .ok (.aload_n 0, 1) := by decide +kernel
theorem dX11_provable_6 : decode cX11_provable 6 = .ok (.iconst 0, 1) := by decide +kernel
theorem dX11_provable_7 : decode cX11_provable 7 = .ok (.putfield 151, 3) := by decide +kernel
theorem dX11_provable_10 : decode cX11_provable 10 = .ok (.aload_n 0, 1) := by decide +kernel
theorem dX11_provable_11 : decode cX11_provable 11 = .ok (.invokevirtual 198, 3) := by decide +kernel
theorem dX11_provable_14 : decode cX11_provable 14 = .ok (.aload_n 0, 1) := by decide +kernel
theorem dX11_provable_15 : decode cX11_provable 15 = .ok (.aload_n 0, 1) := by decide +kernel
theorem dX11_provable_16 : decode cX11_provable 16 = .ok (.getfield 134, 3) := by decide +kernel
theorem dX11_provable_19 : decode cX11_provable 19 = .ok (.invokevirtual 453, 3) := by decide +kernel
theorem dX11_provable_22 : decode cX11_provable 22 = .ok (.ireturn, 1) := by decide +kernel
theorem dX11_bySide_0 : decode cX11_bySide 0 = .ok (.aload_n 0, 1) := by decide +kernel
theorem dX11_bySide_1 : decode cX11_bySide 1 = .ok (.iconst 0, 1) := by decide +kernel
theorem dX11_bySide_2 : decode cX11_bySide 2 = .ok (.putfield 1, 3) := by decide +kernel
theorem dX11_bySide_5 : decode cX11_bySide 5 = .ok (.iload_n 1, 1) := by decide +kernel
theorem dX11_bySide_6 : decode cX11_bySide 6 = .ok (.i2l, 1) := by decide +kernel
theorem dX11_bySide_7 : decode cX11_bySide 7 = .ok (.lconst 0, 1) := by decide +kernel
theorem dX11_bySide_8 : decode cX11_bySide 8 = .ok (.lconst 1, 1) := by decide +kernel
theorem dX11_bySide_9 : decode cX11_bySide 9 = .ok (.invokestatic 180, 3) := by decide +kernel
theorem dX11_bySide_12 : decode cX11_bySide 12 = .ok (.ifCond .ne 6, 3) := by decide +kernel
theorem dX11_bySide_15 : decode cX11_bySide 15 = .ok (.bipush (-2), 2) := by decide +kernel
theorem dX11_bySide_17 : decode cX11_bySide 17 = .ok (.ireturn, 1) := by decide +kernel
theorem dX11_bySide_18 : decode cX11_bySide 18 = .ok (.aload_n 0, 1) := by decide +kernel
theorem dX11_bySide_19 : decode cX11_bySide 19 = .ok (.getfield 13, 3) := by decide +kernel
theorem dX11_bySide_22 : decode cX11_bySide 22 = .ok (.aload_n 0, 1) := by decide +kernel
theorem dX11_bySide_23 : decode cX11_bySide 23 = .ok (.getfield 134, 3) := by decide +kernel
theorem dX11_bySide_26 : decode cX11_bySide 26 = .ok (.iaload, 1) := by decide +kernel
theorem dX11_bySide_27 : decode cX11_bySide 27 = .ok (.bipush 11, 2) := by decide +kernel
theorem dX11_bySide_29 : decode cX11_bySide 29 = .ok (.if_icmp .eq 6, 3) := by decide +kernel
theorem dX11_bySide_32 : decode cX11_bySide 32 = .ok (.bipush (-5), 2) := by decide +kernel
theorem dX11_bySide_34 : decode cX11_bySide 34 = .ok (.ireturn, 1) := by decide +kernel
theorem dX11_bySide_35 : decode cX11_bySide 35 = .ok (.aload_n 0, 1) := by decide +kernel
theorem dX11_bySide_36 : decode cX11_bySide 36 = .ok (.iconst 0, 1) := by decide +kernel
theorem dX11_bySide_37 : decode cX11_bySide 37 = .ok (.putfield 151, 3) := by decide +kernel
theorem dX11_bySide_40 : decode cX11_bySide 40 = .ok (.aload_n 0, 1) := by decide +kernel
theorem dX11_bySide_41 : decode cX11_bySide 41 = .ok (.invokevirtual 198, 3) := by decide +kernel
theorem dX11_bySide_44 : decode cX11_bySide 44 = .ok (.aload_n 0, 1) := by decide +kernel
theorem dX11_bySide_45 : decode cX11_bySide 45 = .ok (.iload_n 1, 1) := by decide +kernel
theorem dX11_bySide_46 : decode cX11_bySide 46 = .ok (.ifCond .ne 15, 3) := by decide +kernel
theorem dX11_bySide_49 : decode cX11_bySide 49 = .ok (.aload_n 0, 1) := by decide +kernel
theorem dX11_bySide_50 : decode cX11_bySide 50 = .ok (.getfield 17, 3) := by decide +kernel
theorem dX11_bySide_53 : decode cX11_bySide 53 = .ok (.aload_n 0, 1) := by decide +kernel
theorem dX11_bySide_54 : decode cX11_bySide 54 = .ok (.getfield 134, 3) := by decide +kernel
theorem dX11_bySide_57 : decode cX11_bySide 57 = .ok (.iaload, 1) := by decide +kernel
theorem dX11_bySide_58 : decode cX11_bySide 58 = .ok (.goto 12, 3) := by decide +kernel
theorem dX11_bySide_61 : decode cX11_bySide 61 = .ok (.aload_n 0, 1) := by decide +kernel
theorem dX11_bySide_62 : decode cX11_bySide 62 = .ok (.getfield 20, 3) := by decide +kernel
theorem dX11_bySide_65 : decode cX11_bySide 65 = .ok (.aload_n 0, 1) := by decide +kernel
theorem dX11_bySide_66 : decode cX11_bySide 66 = .ok (.getfield 134, 3) := by decide +kernel
theorem dX11_bySide_69 : decode cX11_bySide 69 = .ok (.iaload, 1) := by decide +kernel
theorem dX11_bySide_70 : decode cX11_bySide 70 = .ok (.invokevirtual 453, 3) := by decide +kernel
theorem dX11_bySide_73 : decode cX11_bySide 73 = .ok (.ireturn, 1) := by decide +kernel
theorem dX11_isTrue_0 : decode cX11_isTrue 0 = .ok (.aload_n 0, 1) := by decide +kernel
theorem dX11_isTrue_1 : decode cX11_isTrue 1 = .ok (.getfield 13, 3) := by decide +kernel
theorem dX11_isTrue_4 : decode cX11_isTrue 4 = .ok (.iload_n 1, 1) := by decide +kernel
theorem dX11_isTrue_5 : decode cX11_isTrue 5 = .ok (.iaload, 1) := by decide +kernel
theorem dX11_isTrue_6 : decode cX11_isTrue 6 = .ok (.tableswitch 134 8 11 #[30, 32, 66, 100], 30) := by decide +kernel
theorem dX11_isTrue_36 : decode cX11_isTrue 36 = .ok (.iconst 0, 1) := by decide +kernel
theorem dX11_isTrue_37 : decode cX11_isTrue 37 = .ok (.ireturn, 1) := by decide +kernel
theorem dX11_isTrue_38 : decode cX11_isTrue 38 = .ok (.aload_n 0, 1) := by decide +kernel
theorem dX11_isTrue_39 : decode cX11_isTrue 39 = .ok (.aload_n 0, 1) := by decide +kernel
theorem dX11_isTrue_40 : decode cX11_isTrue 40 = .ok (.getfield 17, 3) := by decide +kernel
theorem dX11_isTrue_43 : decode cX11_isTrue 43 = .ok (.iload_n 1, 1) := by decide +kernel
theorem dX11_isTrue_44 : decode cX11_isTrue 44 = .ok (.iaload, 1) := by decide +kernel
theorem dX11_isTrue_45 : decode cX11_isTrue 45 = .ok (.iload_n 2, 1) := by decide +kernel
theorem dX11_isTrue_46 : decode cX11_isTrue 46 = .ok (.invokevirtual 456, 3) := by decide +kernel
theorem dX11_isTrue_49 : decode cX11_isTrue 49 = .ok (.ifCond .eq 17, 3) := by decide +kernel
theorem dX11_isTrue_52 : decode cX11_isTrue 52 = .ok (.aload_n 0, 1) := by decide +kernel
theorem dX11_isTrue_53 : decode cX11_isTrue 53 = .ok (.aload_n 0, 1) := by decide +kernel
theorem dX11_isTrue_54 : decode cX11_isTrue 54 = .ok (.getfield 20, 3) := by decide +kernel
theorem dX11_isTrue_57 : decode cX11_isTrue 57 = .ok (.iload_n 1, 1) := by decide +kernel
theorem dX11_isTrue_58 : decode cX11_isTrue 58 = .ok (.iaload, 1) := by decide +kernel
theorem dX11_isTrue_59 : decode cX11_isTrue 59 = .ok (.iload_n 2, 1) := by decide +kernel
theorem dX11_isTrue_60 : decode cX11_isTrue 60 = .ok (.invokevirtual 456, 3) := by decide +kernel
theorem dX11_isTrue_63 : decode cX11_isTrue 63 = .ok (.ifCond .eq 7, 3) := by decide +kernel
theorem dX11_isTrue_66 : decode cX11_isTrue 66 = .ok (.iconst 1, 1) := by decide +kernel
theorem dX11_isTrue_67 : decode cX11_isTrue 67 = .ok (.goto 4, 3) := by decide +kernel
theorem dX11_isTrue_70 : decode cX11_isTrue 70 = .ok (.iconst 0, 1) := by decide +kernel
theorem dX11_isTrue_71 : decode cX11_isTrue 71 = .ok (.ireturn, 1) := by decide +kernel
theorem dX11_isTrue_72 : decode cX11_isTrue 72 = .ok (.aload_n 0, 1) := by decide +kernel
theorem dX11_isTrue_73 : decode cX11_isTrue 73 = .ok (.aload_n 0, 1) := by decide +kernel
theorem dX11_isTrue_74 : decode cX11_isTrue 74 = .ok (.getfield 17, 3) := by decide +kernel
theorem dX11_isTrue_77 : decode cX11_isTrue 77 = .ok (.iload_n 1, 1) := by decide +kernel
theorem dX11_isTrue_78 : decode cX11_isTrue 78 = .ok (.iaload, 1) := by decide +kernel
theorem dX11_isTrue_79 : decode cX11_isTrue 79 = .ok (.iload_n 2, 1) := by decide +kernel
theorem dX11_isTrue_80 : decode cX11_isTrue 80 = .ok (.invokevirtual 456, 3) := by decide +kernel
theorem dX11_isTrue_83 : decode cX11_isTrue 83 = .ok (.ifCond .eq 21, 3) := by decide +kernel
theorem dX11_isTrue_86 : decode cX11_isTrue 86 = .ok (.aload_n 0, 1) := by decide +kernel
theorem dX11_isTrue_87 : decode cX11_isTrue 87 = .ok (.aload_n 0, 1) := by decide +kernel
theorem dX11_isTrue_88 : decode cX11_isTrue 88 = .ok (.getfield 20, 3) := by decide +kernel
theorem dX11_isTrue_91 : decode cX11_isTrue 91 = .ok (.iload_n 1, 1) := by decide +kernel
theorem dX11_isTrue_92 : decode cX11_isTrue 92 = .ok (.iaload, 1) := by decide +kernel
theorem dX11_isTrue_93 : decode cX11_isTrue 93 = .ok (.iload_n 2, 1) := by decide +kernel
theorem dX11_isTrue_94 : decode cX11_isTrue 94 = .ok (.invokevirtual 456, 3) := by decide +kernel
theorem dX11_isTrue_97 : decode cX11_isTrue 97 = .ok (.ifCond .eq 7, 3) := by decide +kernel
theorem dX11_isTrue_100 : decode cX11_isTrue 100 = .ok (.iconst 1, 1) := by decide +kernel
theorem dX11_isTrue_101 : decode cX11_isTrue 101 = .ok (.goto 4, 3) := by decide +kernel
theorem dX11_isTrue_104 : decode cX11_isTrue 104 = .ok (.iconst 0, 1) := by decide +kernel
theorem dX11_isTrue_105 : decode cX11_isTrue 105 = .ok (.ireturn, 1) := by decide +kernel
theorem dX11_isTrue_106 : decode cX11_isTrue 106 = .ok (.aload_n 0, 1) := by decide +kernel
theorem dX11_isTrue_107 : decode cX11_isTrue 107 = .ok (.aload_n 0, 1) := by decide +kernel
theorem dX11_isTrue_108 : decode cX11_isTrue 108 = .ok (.getfield 17, 3) := by decide +kernel
theorem dX11_isTrue_111 : decode cX11_isTrue 111 = .ok (.iload_n 1, 1) := by decide +kernel
theorem dX11_isTrue_112 : decode cX11_isTrue 112 = .ok (.iaload, 1) := by decide +kernel
theorem dX11_isTrue_113 : decode cX11_isTrue 113 = .ok (.iload_n 2, 1) := by decide +kernel
theorem dX11_isTrue_114 : decode cX11_isTrue 114 = .ok (.invokevirtual 456, 3) := by decide +kernel
theorem dX11_isTrue_117 : decode cX11_isTrue 117 = .ok (.ifCond .ne 17, 3) := by decide +kernel
theorem dX11_isTrue_120 : decode cX11_isTrue 120 = .ok (.aload_n 0, 1) := by decide +kernel
theorem dX11_isTrue_121 : decode cX11_isTrue 121 = .ok (.aload_n 0, 1) := by decide +kernel
theorem dX11_isTrue_122 : decode cX11_isTrue 122 = .ok (.getfield 20, 3) := by decide +kernel
theorem dX11_isTrue_125 : decode cX11_isTrue 125 = .ok (.iload_n 1, 1) := by decide +kernel
theorem dX11_isTrue_126 : decode cX11_isTrue 126 = .ok (.iaload, 1) := by decide +kernel
theorem dX11_isTrue_127 : decode cX11_isTrue 127 = .ok (.iload_n 2, 1) := by decide +kernel
theorem dX11_isTrue_128 : decode cX11_isTrue 128 = .ok (.invokevirtual 456, 3) := by decide +kernel
theorem dX11_isTrue_131 : decode cX11_isTrue 131 = .ok (.ifCond .eq 7, 3) := by decide +kernel
theorem dX11_isTrue_134 : decode cX11_isTrue 134 = .ok (.iconst 1, 1) := by decide +kernel
theorem dX11_isTrue_135 : decode cX11_isTrue 135 = .ok (.goto 4, 3) := by decide +kernel
theorem dX11_isTrue_138 : decode cX11_isTrue 138 = .ok (.iconst 0, 1) := by decide +kernel
theorem dX11_isTrue_139 : decode cX11_isTrue 139 = .ok (.ireturn, 1) := by decide +kernel
theorem dX11_isTrue_140 : decode cX11_isTrue 140 = .ok (.iload_n 2, 1) := by decide +kernel
theorem dX11_isTrue_141 : decode cX11_isTrue 141 = .ok (.aload_n 0, 1) := by decide +kernel
theorem dX11_isTrue_142 : decode cX11_isTrue 142 = .ok (.getfield 13, 3) := by decide +kernel
theorem dX11_isTrue_145 : decode cX11_isTrue 145 = .ok (.iload_n 1, 1) := by decide +kernel
theorem dX11_isTrue_146 : decode cX11_isTrue 146 = .ok (.iaload, 1) := by decide +kernel
theorem dX11_isTrue_147 : decode cX11_isTrue 147 = .ok (.ishr, 1) := by decide +kernel
theorem dX11_isTrue_148 : decode cX11_isTrue 148 = .ok (.iconst 1, 1) := by decide +kernel
theorem dX11_isTrue_149 : decode cX11_isTrue 149 = .ok (.iand, 1) := by decide +kernel
theorem dX11_isTrue_150 : decode cX11_isTrue 150 = .ok (.iconst 1, 1) := by decide +kernel
theorem dX11_isTrue_151 : decode cX11_isTrue 151 = .ok (.if_icmp .ne 7, 3) := by decide +kernel
theorem dX11_isTrue_154 : decode cX11_isTrue 154 = .ok (.iconst 1, 1) := by decide +kernel
theorem dX11_isTrue_155 : decode cX11_isTrue 155 = .ok (.goto 4, 3) := by decide +kernel
theorem dX11_isTrue_158 : decode cX11_isTrue 158 = .ok (.iconst 0, 1) := by decide +kernel
theorem dX11_isTrue_159 : decode cX11_isTrue 159 = .ok (.ireturn, 1) := by decide +kernel
theorem dX11_againstNow_0 : decode cX11_againstNow 0 = .ok (.iconst 0, 1) := by decide +kernel
theorem dX11_againstNow_1 : decode cX11_againstNow 1 = .ok (.istore_n 1, 1) := by decide +kernel
theorem dX11_againstNow_2 : decode cX11_againstNow 2 = .ok (.iload_n 1, 1) := by decide +kernel
theorem dX11_againstNow_3 : decode cX11_againstNow 3 = .ok (.sipush 256, 3) := by decide +kernel
theorem dX11_againstNow_6 : decode cX11_againstNow 6 = .ok (.if_icmp .ge 65, 3) := by decide +kernel
theorem dX11_againstNow_9 : decode cX11_againstNow 9 = .ok (.aload_n 0, 1) := by decide +kernel
theorem dX11_againstNow_10 : decode cX11_againstNow 10 = .ok (.aload_n 0, 1) := by decide +kernel
theorem dX11_againstNow_11 : decode cX11_againstNow 11 = .ok (.getfield 134, 3) := by decide +kernel
theorem dX11_againstNow_14 : decode cX11_againstNow 14 = .ok (.iload_n 1, 1) := by decide +kernel
theorem dX11_againstNow_15 : decode cX11_againstNow 15 = .ok (.invokevirtual 456, 3) := by decide +kernel
theorem dX11_againstNow_18 : decode cX11_againstNow 18 = .ok (.ifCond .ne 7, 3) := by decide +kernel
theorem dX11_againstNow_21 : decode cX11_againstNow 21 = .ok (.iconst 1, 1) := by decide +kernel
theorem dX11_againstNow_22 : decode cX11_againstNow 22 = .ok (.goto 4, 3) := by decide +kernel
theorem dX11_againstNow_25 : decode cX11_againstNow 25 = .ok (.iconst 0, 1) := by decide +kernel
theorem dX11_againstNow_26 : decode cX11_againstNow 26 = .ok (.istore_n 2, 1) := by decide +kernel
theorem dX11_againstNow_27 : decode cX11_againstNow 27 = .ok (.iconst 0, 1) := by decide +kernel
theorem dX11_againstNow_28 : decode cX11_againstNow 28 = .ok (.istore_n 3, 1) := by decide +kernel
theorem dX11_againstNow_29 : decode cX11_againstNow 29 = .ok (.iload_n 3, 1) := by decide +kernel
theorem dX11_againstNow_30 : decode cX11_againstNow 30 = .ok (.aload_n 0, 1) := by decide +kernel
theorem dX11_againstNow_31 : decode cX11_againstNow 31 = .ok (.getfield 144, 3) := by decide +kernel
theorem dX11_againstNow_34 : decode cX11_againstNow 34 = .ok (.if_icmp .ge 25, 3) := by decide +kernel
theorem dX11_againstNow_37 : decode cX11_againstNow 37 = .ok (.iload_n 2, 1) := by decide +kernel
theorem dX11_againstNow_38 : decode cX11_againstNow 38 = .ok (.ifCond .eq 21, 3) := by decide +kernel
theorem dX11_againstNow_41 : decode cX11_againstNow 41 = .ok (.aload_n 0, 1) := by decide +kernel
theorem dX11_againstNow_42 : decode cX11_againstNow 42 = .ok (.aload_n 0, 1) := by decide +kernel
theorem dX11_againstNow_43 : decode cX11_againstNow 43 = .ok (.getfield 38, 3) := by decide +kernel
theorem dX11_againstNow_46 : decode cX11_againstNow 46 = .ok (.iload_n 3, 1) := by decide +kernel
theorem dX11_againstNow_47 : decode cX11_againstNow 47 = .ok (.iaload, 1) := by decide +kernel
theorem dX11_againstNow_48 : decode cX11_againstNow 48 = .ok (.iload_n 1, 1) := by decide +kernel
theorem dX11_againstNow_49 : decode cX11_againstNow 49 = .ok (.invokevirtual 456, 3) := by decide +kernel
theorem dX11_againstNow_52 : decode cX11_againstNow 52 = .ok (.istore_n 2, 1) := by decide +kernel
theorem dX11_againstNow_53 : decode cX11_againstNow 53 = .ok (.iinc 3 1, 3) := by decide +kernel
theorem dX11_againstNow_56 : decode cX11_againstNow 56 = .ok (.goto (-27), 3) := by decide +kernel
theorem dX11_againstNow_59 : decode cX11_againstNow 59 = .ok (.iload_n 2, 1) := by decide +kernel
theorem dX11_againstNow_60 : decode cX11_againstNow 60 = .ok (.ifCond .eq 5, 3) := by decide +kernel
theorem dX11_againstNow_63 : decode cX11_againstNow 63 = .ok (.iload_n 1, 1) := by decide +kernel
theorem dX11_againstNow_64 : decode cX11_againstNow 64 = .ok (.ireturn, 1) := by decide +kernel
theorem dX11_againstNow_65 : decode cX11_againstNow 65 = .ok (.iinc 1 1, 3) := by decide +kernel
theorem dX11_againstNow_68 : decode cX11_againstNow 68 = .ok (.goto (-66), 3) := by decide +kernel
theorem dX11_againstNow_71 : decode cX11_againstNow 71 = .ok (.iconst (-1), 1) := by decide +kernel
theorem dX11_againstNow_72 : decode cX11_againstNow 72 = .ok (.ireturn, 1) := by decide +kernel
theorem dX11_classical_0 : decode cX11_classical 0 = .ok (.aload_n 0, 1) := by decide +kernel
theorem dX11_classical_1 : decode cX11_classical 1 = .ok (.iconst 0, 1) := by decide +kernel
theorem dX11_classical_2 : decode cX11_classical 2 = .ok (.putfield 1, 3) := by decide +kernel
theorem dX11_classical_5 : decode cX11_classical 5 = .ok (.aload_n 0, 1) := by decide +kernel
theorem dX11_classical_6 : decode cX11_classical 6 = .ok (.invokevirtual 460, 3) := by decide +kernel
theorem dX11_classical_9 : decode cX11_classical 9 = .ok (.iconst (-1), 1) := by decide +kernel
theorem dX11_classical_10 : decode cX11_classical 10 = .ok (.if_icmp .ne 7, 3) := by decide +kernel
theorem dX11_classical_13 : decode cX11_classical 13 = .ok (.iconst 1, 1) := by decide +kernel
theorem dX11_classical_14 : decode cX11_classical 14 = .ok (.goto 4, 3) := by decide +kernel
theorem dX11_classical_17 : decode cX11_classical 17 = .ok (.iconst 0, 1) := by decide +kernel
theorem dX11_classical_18 : decode cX11_classical 18 = .ok (.ireturn, 1) := by decide +kernel
theorem dX11_against_0 : decode cX11_against 0 = .ok (.aload_n 0, 1) := by decide +kernel
theorem dX11_against_1 : decode cX11_against 1 = .ok (.iconst 0, 1) := by decide +kernel
theorem dX11_against_2 : decode cX11_against 2 = .ok (.putfield 1, 3) := by decide +kernel
theorem dX11_against_5 : decode cX11_against 5 = .ok (.aload_n 0, 1) := by decide +kernel
theorem dX11_against_6 : decode cX11_against 6 = .ok (.invokevirtual 460, 3) := by decide +kernel
theorem dX11_against_9 : decode cX11_against 9 = .ok (.ireturn, 1) := by decide +kernel
