theorem dX12_filter_0 : decode cX12_filter 0 = .ok (.aload_n 0, 1) := by decide +kernel
theorem dX12_filter_1 : decode cX12_filter 1 = .ok (.getfield 194, 3) := by decide +kernel
theorem dX12_filter_4 : decode cX12_filter 4 = .ok (.iload_n 1, 1) := by decide +kernel
theorem dX12_filter_5 : decode cX12_filter 5 = .ok (.iaload, 1) := by decide +kernel
theorem dX12_filter_6 : decode cX12_filter 6 = .ok (.iconst 4, 1) := by decide +kernel
theorem dX12_filter_7 : decode cX12_filter 7 = .ok (.if_icmp .ne 14, 3) := by decide +kernel
theorem dX12_filter_10 : decode cX12_filter 10 = .ok (.aload_n 0, 1) := by decide +kernel
theorem dX12_filter_11 : decode cX12_filter 11 = .ok (.bipush (-3), 2) := by decide +kernel
theorem dX12_filter_13 : decode cX12_filter 13 = .ok (.aload_n 0, 1) := by decide +kernel
theorem dX12_filter_14 : decode cX12_filter 14 = .ok (.getfield 276, 3) := by decide +kernel
theorem dX12_filter_17 : decode cX12_filter 17 = .ok (.invokevirtual 293, 3) := by decide +kernel
theorem dX12_filter_20 : decode cX12_filter 20 = .ok (.return_, 1) := by decide +kernel
theorem dX12_filter_21 : decode cX12_filter 21 = .ok (.aload_n 0, 1) := by decide +kernel
theorem dX12_filter_22 : decode cX12_filter 22 = .ok (.dup, 1) := by decide +kernel
theorem dX12_filter_23 : decode cX12_filter 23 = .ok (.getfield 276, 3) := by decide +kernel
theorem dX12_filter_26 : decode cX12_filter 26 = .ok (.iconst 1, 1) := by decide +kernel
theorem dX12_filter_27 : decode cX12_filter 27 = .ok (.iadd, 1) := by decide +kernel
theorem dX12_filter_28 : decode cX12_filter 28 = .ok (.putfield 276, 3) := by decide +kernel
theorem dX12_filter_31 : decode cX12_filter 31 = .ok (.iconst 4, 1) := by decide +kernel
theorem dX12_filter_32 : decode cX12_filter 32 = .ok (.iload_n 1, 1) := by decide +kernel
theorem dX12_filter_33 : decode cX12_filter 33 = .ok (.imul, 1) := by decide +kernel
theorem dX12_filter_34 : decode cX12_filter 34 = .ok (.aload_n 0, 1) := by decide +kernel
theorem dX12_filter_35 : decode cX12_filter 35 = .ok (.getfield 194, 3) := by decide +kernel
theorem dX12_filter_38 : decode cX12_filter 38 = .ok (.iload_n 1, 1) := by decide +kernel
theorem dX12_filter_39 : decode cX12_filter 39 = .ok (.iaload, 1) := by decide +kernel
theorem dX12_filter_40 : decode cX12_filter 40 = .ok (.iadd, 1) := by decide +kernel
theorem dX12_filter_41 : decode cX12_filter 41 = .ok (.istore_n 2, 1) := by decide +kernel
theorem dX12_filter_42 : decode cX12_filter 42 = .ok (.aload_n 0, 1) := by decide +kernel
theorem dX12_filter_43 : decode cX12_filter 43 = .ok (.getfield 194, 3) := by decide +kernel
theorem dX12_filter_46 : decode cX12_filter 46 = .ok (.iload_n 1, 1) := by decide +kernel
theorem dX12_filter_47 : decode cX12_filter 47 = .ok (.dup2, 1) := by decide +kernel
theorem dX12_filter_48 : decode cX12_filter 48 = .ok (.iaload, 1) := by decide +kernel
theorem dX12_filter_49 : decode cX12_filter 49 = .ok (.iconst 1, 1) := by decide +kernel
theorem dX12_filter_50 : decode cX12_filter 50 = .ok (.iadd, 1) := by decide +kernel
theorem dX12_filter_51 : decode cX12_filter 51 = .ok (.iastore, 1) := by decide +kernel
theorem dX12_filter_52 : decode cX12_filter 52 = .ok (.aload_n 0, 1) := by decide +kernel
theorem dX12_filter_53 : decode cX12_filter 53 = .ok (.getfield 206, 3) := by decide +kernel
theorem dX12_filter_56 : decode cX12_filter 56 = .ok (.iload_n 2, 1) := by decide +kernel
theorem dX12_filter_57 : decode cX12_filter 57 = .ok (.iconst 0, 1) := by decide +kernel
theorem dX12_filter_58 : decode cX12_filter 58 = .ok (.bastore, 1) := by decide +kernel
theorem dX12_filter_59 : decode cX12_filter 59 = .ok (.aload_n 0, 1) := by decide +kernel
theorem dX12_filter_60 : decode cX12_filter 60 = .ok (.aload_n 0, 1) := by decide +kernel
theorem dX12_filter_61 : decode cX12_filter 61 = .ok (.getfield 276, 3) := by decide +kernel
theorem dX12_filter_64 : decode cX12_filter 64 = .ok (.invokevirtual 279, 3) := by decide +kernel
theorem dX12_filter_67 : decode cX12_filter 67 = .ok (.i2l, 1) := by decide +kernel
theorem dX12_filter_68 : decode cX12_filter 68 = .ok (.ldc2_w 272, 3) := by decide +kernel
theorem dX12_filter_71 : decode cX12_filter 71 = .ok (.ldc2_w 274, 3) := by decide +kernel
theorem dX12_filter_74 : decode cX12_filter 74 = .ok (.invokestatic 256, 3) := by decide +kernel
theorem dX12_filter_77 : decode cX12_filter 77 = .ok (.ifCond .eq 85, 3) := by decide +kernel
theorem dX12_filter_80 : decode cX12_filter 80 = .ok (.iconst 0, 1) := by decide +kernel
theorem dX12_filter_81 : decode cX12_filter 81 = .ok (.istore_n 3, 1) := by decide +kernel
theorem dX12_filter_82 : decode cX12_filter 82 = .ok (.iconst 0, 1) := by decide +kernel
theorem dX12_filter_83 : decode cX12_filter 83 = .ok (.istore 4, 2) := by decide +kernel
theorem dX12_filter_85 : decode cX12_filter 85 = .ok (.iload 4, 2) := by decide +kernel
theorem dX12_filter_87 : decode cX12_filter 87 = .ok (.iconst 4, 1) := by decide +kernel
theorem dX12_filter_88 : decode cX12_filter 88 = .ok (.if_icmp .ge 57, 3) := by decide +kernel
theorem dX12_filter_91 : decode cX12_filter 91 = .ok (.aload_n 0, 1) := by decide +kernel
theorem dX12_filter_92 : decode cX12_filter 92 = .ok (.aload_n 0, 1) := by decide +kernel
theorem dX12_filter_93 : decode cX12_filter 93 = .ok (.getfield 276, 3) := by decide +kernel
theorem dX12_filter_96 : decode cX12_filter 96 = .ok (.invokevirtual 279, 3) := by decide +kernel
theorem dX12_filter_99 : decode cX12_filter 99 = .ok (.i2l, 1) := by decide +kernel
theorem dX12_filter_100 : decode cX12_filter 100 = .ok (.ldc2_w 272, 3) := by decide +kernel
theorem dX12_filter_103 : decode cX12_filter 103 = .ok (.ldc2_w 274, 3) := by decide +kernel
theorem dX12_filter_106 : decode cX12_filter 106 = .ok (.invokestatic 256, 3) := by decide +kernel
theorem dX12_filter_109 : decode cX12_filter 109 = .ok (.ifCond .eq 36, 3) := by decide +kernel
theorem dX12_filter_112 : decode cX12_filter 112 = .ok (.bipush 10, 2) := by decide +kernel
theorem dX12_filter_114 : decode cX12_filter 114 = .ok (.iload_n 3, 1) := by decide +kernel
theorem dX12_filter_115 : decode cX12_filter 115 = .ok (.imul, 1) := by decide +kernel
theorem dX12_filter_116 : decode cX12_filter 116 = .ok (.aload_n 0, 1) := by decide +kernel
theorem dX12_filter_117 : decode cX12_filter 117 = .ok (.aload_n 0, 1) := by decide +kernel
theorem dX12_filter_118 : decode cX12_filter 118 = .ok (.getfield 276, 3) := by decide +kernel
theorem dX12_filter_121 : decode cX12_filter 121 = .ok (.invokevirtual 279, 3) := by decide +kernel
theorem dX12_filter_124 : decode cX12_filter 124 = .ok (.iadd, 1) := by decide +kernel
theorem dX12_filter_125 : decode cX12_filter 125 = .ok (.bipush 48, 2) := by decide +kernel
theorem dX12_filter_127 : decode cX12_filter 127 = .ok (.isub, 1) := by decide +kernel
theorem dX12_filter_128 : decode cX12_filter 128 = .ok (.istore_n 3, 1) := by decide +kernel
theorem dX12_filter_129 : decode cX12_filter 129 = .ok (.aload_n 0, 1) := by decide +kernel
theorem dX12_filter_130 : decode cX12_filter 130 = .ok (.dup, 1) := by decide +kernel
theorem dX12_filter_131 : decode cX12_filter 131 = .ok (.getfield 276, 3) := by decide +kernel
theorem dX12_filter_134 : decode cX12_filter 134 = .ok (.iconst 1, 1) := by decide +kernel
theorem dX12_filter_135 : decode cX12_filter 135 = .ok (.iadd, 1) := by decide +kernel
theorem dX12_filter_136 : decode cX12_filter 136 = .ok (.putfield 276, 3) := by decide +kernel
theorem dX12_filter_139 : decode cX12_filter 139 = .ok (.iinc 4 1, 3) := by decide +kernel
theorem dX12_filter_142 : decode cX12_filter 142 = .ok (.goto (-57), 3) := by decide +kernel
theorem dX12_filter_145 : decode cX12_filter 145 = .ok (.aload_n 0, 1) := by decide +kernel
theorem dX12_filter_146 : decode cX12_filter 146 = .ok (.getfield 197, 3) := by decide +kernel
theorem dX12_filter_149 : decode cX12_filter 149 = .ok (.iload_n 2, 1) := by decide +kernel
theorem dX12_filter_150 : decode cX12_filter 150 = .ok (.iconst 0, 1) := by decide +kernel
theorem dX12_filter_151 : decode cX12_filter 151 = .ok (.iastore, 1) := by decide +kernel
theorem dX12_filter_152 : decode cX12_filter 152 = .ok (.aload_n 0, 1) := by decide +kernel
theorem dX12_filter_153 : decode cX12_filter 153 = .ok (.getfield 200, 3) := by decide +kernel
theorem dX12_filter_156 : decode cX12_filter 156 = .ok (.iload_n 2, 1) := by decide +kernel
theorem dX12_filter_157 : decode cX12_filter 157 = .ok (.iload_n 3, 1) := by decide +kernel
theorem dX12_filter_158 : decode cX12_filter 158 = .ok (.iastore, 1) := by decide +kernel
theorem dX12_filter_159 : decode cX12_filter 159 = .ok (.goto 231, 3) := by decide +kernel
theorem dX12_filter_162 : decode cX12_filter 162 = .ok (.aload_n 0, 1) := by decide +kernel
theorem dX12_filter_163 : decode cX12_filter 163 = .ok (.ldc2_w 562, 3) := by decide +kernel
theorem dX12_filter_166 : decode cX12_filter 166 = .ok (.bipush 6, 2) := by decide +kernel
theorem dX12_filter_168 : decode cX12_filter 168 = .ok (.invokevirtual 285, 3) := by decide +kernel
theorem dX12_filter_171 : decode cX12_filter 171 = .ok (.ifCond .eq 24, 3) := by decide +kernel
theorem dX12_filter_174 : decode cX12_filter 174 = .ok (.aload_n 0, 1) := by decide +kernel
theorem dX12_filter_175 : decode cX12_filter 175 = .ok (.dup, 1) := by decide +kernel
theorem dX12_filter_176 : decode cX12_filter 176 = .ok (.getfield 276, 3) := by decide +kernel
theorem dX12_filter_179 : decode cX12_filter 179 = .ok (.bipush 6, 2) := by decide +kernel
theorem dX12_filter_181 : decode cX12_filter 181 = .ok (.iadd, 1) := by decide +kernel
theorem dX12_filter_182 : decode cX12_filter 182 = .ok (.putfield 276, 3) := by decide +kernel
theorem dX12_filter_185 : decode cX12_filter 185 = .ok (.aload_n 0, 1) := by decide +kernel
theorem dX12_filter_186 : decode cX12_filter 186 = .ok (.getfield 197, 3) := by decide +kernel
theorem dX12_filter_189 : decode cX12_filter 189 = .ok (.iload_n 2, 1) := by decide +kernel
theorem dX12_filter_190 : decode cX12_filter 190 = .ok (.iconst 1, 1) := by decide +kernel
theorem dX12_filter_191 : decode cX12_filter 191 = .ok (.iastore, 1) := by decide +kernel
theorem dX12_filter_192 : decode cX12_filter 192 = .ok (.goto 198, 3) := by decide +kernel
theorem dX12_filter_195 : decode cX12_filter 195 = .ok (.aload_n 0, 1) := by decide +kernel
theorem dX12_filter_196 : decode cX12_filter 196 = .ok (.aload_n 0, 1) := by decide +kernel
theorem dX12_filter_197 : decode cX12_filter 197 = .ok (.getfield 276, 3) := by decide +kernel
theorem dX12_filter_200 : decode cX12_filter 200 = .ok (.invokevirtual 279, 3) := by decide +kernel
theorem dX12_filter_203 : decode cX12_filter 203 = .ok (.bipush 64, 2) := by decide +kernel
theorem dX12_filter_205 : decode cX12_filter 205 = .ok (.if_icmp .eq 17, 3) := by decide +kernel
theorem dX12_filter_208 : decode cX12_filter 208 = .ok (.aload_n 0, 1) := by decide +kernel
theorem dX12_filter_209 : decode cX12_filter 209 = .ok (.aload_n 0, 1) := by decide +kernel
theorem dX12_filter_210 : decode cX12_filter 210 = .ok (.getfield 276, 3) := by decide +kernel
theorem dX12_filter_213 : decode cX12_filter 213 = .ok (.invokevirtual 279, 3) := by decide +kernel
theorem dX12_filter_216 : decode cX12_filter 216 = .ok (.invokestatic 268, 3) := by decide +kernel
theorem dX12_filter_219 : decode cX12_filter 219 = .ok (.ifCond .eq 126, 3) := by decide +kernel
theorem dX12_filter_222 : decode cX12_filter 222 = .ok (.aload_n 0, 1) := by decide +kernel
theorem dX12_filter_223 : decode cX12_filter 223 = .ok (.getfield 206, 3) := by decide +kernel
theorem dX12_filter_226 : decode cX12_filter 226 = .ok (.iload_n 2, 1) := by decide +kernel
theorem dX12_filter_227 : decode cX12_filter 227 = .ok (.aload_n 0, 1) := by decide +kernel
theorem dX12_filter_228 : decode cX12_filter 228 = .ok (.aload_n 0, 1) := by decide +kernel
theorem dX12_filter_229 : decode cX12_filter 229 = .ok (.getfield 276, 3) := by decide +kernel
theorem dX12_filter_232 : decode cX12_filter 232 = .ok (.invokevirtual 279, 3) := by decide +kernel
theorem dX12_filter_235 : decode cX12_filter 235 = .ok (.bipush 64, 2) := by decide +kernel
theorem dX12_filter_237 : decode cX12_filter 237 = .ok (.if_icmp .ne 7, 3) := by decide +kernel
theorem dX12_filter_240 : decode cX12_filter 240 = .ok (.iconst 1, 1) := by decide +kernel
theorem dX12_filter_241 : decode cX12_filter 241 = .ok (.goto 4, 3) := by decide +kernel
theorem dX12_filter_244 : decode cX12_filter 244 = .ok (.iconst 0, 1) := by decide +kernel
theorem dX12_filter_245 : decode cX12_filter 245 = .ok (.bastore, 1) := by decide +kernel
theorem dX12_filter_246 : decode cX12_filter 246 = .ok (.aload_n 0, 1) := by decide +kernel
theorem dX12_filter_247 : decode cX12_filter 247 = .ok (.dup, 1) := by decide +kernel
theorem dX12_filter_248 : decode cX12_filter 248 = .ok (.getfield 276, 3) := by decide +kernel
theorem dX12_filter_251 : decode cX12_filter 251 = .ok (.aload_n 0, 1) := by decide +kernel
theorem dX12_filter_252 : decode cX12_filter 252 = .ok (.aload_n 0, 1) := by decide +kernel
theorem dX12_filter_253 : decode cX12_filter 253 = .ok (.getfield 276, 3) := by decide +kernel
theorem dX12_filter_256 : decode cX12_filter 256 = .ok (.invokevirtual 279, 3) := by decide +kernel
theorem dX12_filter_259 : decode cX12_filter 259 = .ok (.bipush 64, 2) := by decide +kernel
theorem dX12_filter_261 : decode cX12_filter 261 = .ok (.if_icmp .ne 7, 3) := by decide +kernel
theorem dX12_filter_264 : decode cX12_filter 264 = .ok (.iconst 1, 1) := by decide +kernel
theorem dX12_filter_265 : decode cX12_filter 265 = .ok (.goto 4, 3) := by decide +kernel
theorem dX12_filter_268 : decode cX12_filter 268 = .ok (.iconst 0, 1) := by decide +kernel
theorem dX12_filter_269 : decode cX12_filter 269 = .ok (.iadd, 1) := by decide +kernel
theorem dX12_filter_270 : decode cX12_filter 270 = .ok (.putfield 276, 3) := by decide +kernel
theorem dX12_filter_273 : decode cX12_filter 273 = .ok (.aload_n 0, 1) := by decide +kernel
theorem dX12_filter_274 : decode cX12_filter 274 = .ok (.getfield 200, 3) := by decide +kernel
theorem dX12_filter_277 : decode cX12_filter 277 = .ok (.iload_n 2, 1) := by decide +kernel
theorem dX12_filter_278 : decode cX12_filter 278 = .ok (.aload_n 0, 1) := by decide +kernel
theorem dX12_filter_279 : decode cX12_filter 279 = .ok (.invokevirtual 351, 3) := by decide +kernel
theorem dX12_filter_282 : decode cX12_filter 282 = .ok (.iastore, 1) := by decide +kernel
theorem dX12_filter_283 : decode cX12_filter 283 = .ok (.aload_n 0, 1) := by decide +kernel
theorem dX12_filter_284 : decode cX12_filter 284 = .ok (.getfield 203, 3) := by decide +kernel
theorem dX12_filter_287 : decode cX12_filter 287 = .ok (.iload_n 2, 1) := by decide +kernel
theorem dX12_filter_288 : decode cX12_filter 288 = .ok (.aload_n 0, 1) := by decide +kernel
theorem dX12_filter_289 : decode cX12_filter 289 = .ok (.getfield 306, 3) := by decide +kernel
theorem dX12_filter_292 : decode cX12_filter 292 = .ok (.iastore, 1) := by decide +kernel
theorem dX12_filter_293 : decode cX12_filter 293 = .ok (.aload_n 0, 1) := by decide +kernel
theorem dX12_filter_294 : decode cX12_filter 294 = .ok (.getfield 197, 3) := by decide +kernel
theorem dX12_filter_297 : decode cX12_filter 297 = .ok (.iload_n 2, 1) := by decide +kernel
theorem dX12_filter_298 : decode cX12_filter 298 = .ok (.iconst 2, 1) := by decide +kernel
theorem dX12_filter_299 : decode cX12_filter 299 = .ok (.iastore, 1) := by decide +kernel
theorem dX12_filter_300 : decode cX12_filter 300 = .ok (.aload_n 0, 1) := by decide +kernel
theorem dX12_filter_301 : decode cX12_filter 301 = .ok (.invokevirtual 289, 3) := by decide +kernel
theorem dX12_filter_304 : decode cX12_filter 304 = .ok (.ifCond .eq 86, 3) := by decide +kernel
theorem dX12_filter_307 : decode cX12_filter 307 = .ok (.aload_n 0, 1) := by decide +kernel
theorem dX12_filter_308 : decode cX12_filter 308 = .ok (.aload_n 0, 1) := by decide +kernel
theorem dX12_filter_309 : decode cX12_filter 309 = .ok (.getfield 276, 3) := by decide +kernel
theorem dX12_filter_312 : decode cX12_filter 312 = .ok (.invokevirtual 279, 3) := by decide +kernel
theorem dX12_filter_315 : decode cX12_filter 315 = .ok (.bipush 61, 2) := by decide +kernel
theorem dX12_filter_317 : decode cX12_filter 317 = .ok (.if_icmp .ne 73, 3) := by decide +kernel
theorem dX12_filter_320 : decode cX12_filter 320 = .ok (.aload_n 0, 1) := by decide +kernel
theorem dX12_filter_321 : decode cX12_filter 321 = .ok (.dup, 1) := by decide +kernel
theorem dX12_filter_322 : decode cX12_filter 322 = .ok (.getfield 276, 3) := by decide +kernel
theorem dX12_filter_325 : decode cX12_filter 325 = .ok (.iconst 1, 1) := by decide +kernel
theorem dX12_filter_326 : decode cX12_filter 326 = .ok (.iadd, 1) := by decide +kernel
theorem dX12_filter_327 : decode cX12_filter 327 = .ok (.putfield 276, 3) := by decide +kernel
theorem dX12_filter_330 : decode cX12_filter 330 = .ok (.aload_n 0, 1) := by decide +kernel
theorem dX12_filter_331 : decode cX12_filter 331 = .ok (.getfield 197, 3) := by decide +kernel
theorem dX12_filter_334 : decode cX12_filter 334 = .ok (.iload_n 2, 1) := by decide +kernel
theorem dX12_filter_335 : decode cX12_filter 335 = .ok (.iconst 3, 1) := by decide +kernel
theorem dX12_filter_336 : decode cX12_filter 336 = .ok (.iastore, 1) := by decide +kernel
theorem dX12_filter_337 : decode cX12_filter 337 = .ok (.aload_n 0, 1) := by decide +kernel
theorem dX12_filter_338 : decode cX12_filter 338 = .ok (.iload_n 2, 1) := by decide +kernel
theorem dX12_filter_339 : decode cX12_filter 339 = .ok (.invokevirtual 564, 3) := by decide +kernel
theorem dX12_filter_342 : decode cX12_filter 342 = .ok (.goto 48, 3) := by decide +kernel
theorem dX12_filter_345 : decode cX12_filter 345 = .ok (.aload_n 0, 1) := by decide +kernel
theorem dX12_filter_346 : decode cX12_filter 346 = .ok (.ldc2_w 567, 3) := by decide +kernel
theorem dX12_filter_349 : decode cX12_filter 349 = .ok (.iconst 2, 1) := by decide +kernel
theorem dX12_filter_350 : decode cX12_filter 350 = .ok (.invokevirtual 285, 3) := by decide +kernel
theorem dX12_filter_353 : decode cX12_filter 353 = .ok (.ifCond .eq 28, 3) := by decide +kernel
theorem dX12_filter_356 : decode cX12_filter 356 = .ok (.aload_n 0, 1) := by decide +kernel
theorem dX12_filter_357 : decode cX12_filter 357 = .ok (.dup, 1) := by decide +kernel
theorem dX12_filter_358 : decode cX12_filter 358 = .ok (.getfield 276, 3) := by decide +kernel
theorem dX12_filter_361 : decode cX12_filter 361 = .ok (.iconst 2, 1) := by decide +kernel
theorem dX12_filter_362 : decode cX12_filter 362 = .ok (.iadd, 1) := by decide +kernel
theorem dX12_filter_363 : decode cX12_filter 363 = .ok (.putfield 276, 3) := by decide +kernel
theorem dX12_filter_366 : decode cX12_filter 366 = .ok (.aload_n 0, 1) := by decide +kernel
theorem dX12_filter_367 : decode cX12_filter 367 = .ok (.getfield 197, 3) := by decide +kernel
theorem dX12_filter_370 : decode cX12_filter 370 = .ok (.iload_n 2, 1) := by decide +kernel
theorem dX12_filter_371 : decode cX12_filter 371 = .ok (.iconst 4, 1) := by decide +kernel
theorem dX12_filter_372 : decode cX12_filter 372 = .ok (.iastore, 1) := by decide +kernel
theorem dX12_filter_373 : decode cX12_filter 373 = .ok (.aload_n 0, 1) := by decide +kernel
theorem dX12_filter_374 : decode cX12_filter 374 = .ok (.iload_n 2, 1) := by decide +kernel
theorem dX12_filter_375 : decode cX12_filter 375 = .ok (.invokevirtual 564, 3) := by decide +kernel
theorem dX12_filter_378 : decode cX12_filter 378 = .ok (.goto 12, 3) := by decide +kernel
theorem dX12_filter_381 : decode cX12_filter 381 = .ok (.aload_n 0, 1) := by decide +kernel
theorem dX12_filter_382 : decode cX12_filter 382 = .ok (.iconst (-1), 1) := by decide +kernel
theorem dX12_filter_383 : decode cX12_filter 383 = .ok (.aload_n 0, 1) := by decide +kernel
theorem dX12_filter_384 : decode cX12_filter 384 = .ok (.getfield 276, 3) := by decide +kernel
theorem dX12_filter_387 : decode cX12_filter 387 = .ok (.invokevirtual 293, 3) := by decide +kernel
theorem dX12_filter_390 : decode cX12_filter 390 = .ok (.aload_n 0, 1) := by decide +kernel
theorem dX12_filter_391 : decode cX12_filter 391 = .ok (.bipush 93, 2) := by decide +kernel
theorem dX12_filter_393 : decode cX12_filter 393 = .ok (.invokevirtual 340, 3) := by decide +kernel
theorem dX12_filter_396 : decode cX12_filter 396 = .ok (.istore_n 3, 1) := by decide +kernel
theorem dX12_filter_397 : decode cX12_filter 397 = .ok (.return_, 1) := by decide +kernel
theorem v_X12_filter_0 {cs : Cs} {Q : Option AV → Mm → Prop} {MI ML : Nat → Nat → Int} {d e nw th x : Nat} {l1 : Int}
    (h : (0 ≤ l1 ∧ l1 < 12) ∧ (((MI 184 l1.toNat) = 4 → wp cs mX12_fail KD (rV (GR d e nw th x) fun m17 n17 => Q none (m17, n17, (GR d e nw th x))) 0 (padL [vR 124, vI (-3), vI (MI 124 4)] 3) [] (KD, MI, ML, (GR d e nw th x))) ∧ ((MI 184 l1.toNat) ≠ 4 → (-2147483648 ≤ (MI 124 4) + 1 ∧ (MI 124 4) + 1 < 2147483648) ∧ ∀ m28, m28 = up2 MI 124 4 ((MI 124 4) + 1) → (-2147483648 ≤ 4 * l1 ∧ 4 * l1 < 2147483648) ∧ (-2147483648 ≤ (4 * l1) + (m28 184 l1.toNat) ∧ (4 * l1) + (m28 184 l1.toNat) < 2147483648) ∧ (-2147483648 ≤ (m28 184 l1.toNat) + 1 ∧ (m28 184 l1.toNat) + 1 < 2147483648) ∧ ∀ m51, m51 = up2 m28 184 l1.toNat ((m28 184 l1.toNat) + 1) → (0 ≤ ((4 * l1) + (m28 184 l1.toNat)) ∧ ((4 * l1) + (m28 184 l1.toNat)) < 48) ∧ ∀ m58, m58 = up2 m51 188 ((4 * l1) + (m28 184 l1.toNat)).toNat 0 → wp cs mX12_octet KD (rI (GR d e nw th x) fun x64 m64 n64 => wp cs mX12_in KD (rI (GR d e nw th x) fun x74 m74 n74 => ((x74 = 0 → wp cs mX12_stands KD (rI (GR d e nw th x) fun x168 m168 n168 => ((x168 = 0 → wp cs mX12_octet KD (rI (GR d e nw th x) fun x200 m200 n200 => ((x200 = 64 → wp cs mX12_octet KD (rI (GR d e nw th x) fun x232 m232 n232 => ((x232 = 64 → wp cs mX12_filter KD Q 245 [some (vR 124), some (vI l1), some (vI ((4 * l1) + (m28 184 l1.toNat))), none, none] [vI 1, vI ((4 * l1) + (m28 184 l1.toNat)), vR 188] (KD, m232, n232, (GR d e nw th x))) ∧ (x232 ≠ 64 → wp cs mX12_filter KD Q 245 [some (vR 124), some (vI l1), some (vI ((4 * l1) + (m28 184 l1.toNat))), none, none] [vI 0, vI ((4 * l1) + (m28 184 l1.toNat)), vR 188] (KD, m232, n232, (GR d e nw th x))))) 0 (padL [vR 124, vI (m200 124 4)] 2) [] (KD, m200, n200, (GR d e nw th x))) ∧ (x200 ≠ 64 → wp cs mX12_octet KD (rI (GR d e nw th x) fun x213 m213 n213 => wp cs mX12_isFirst KD (rI (GR d e nw th x) fun x216 m216 n216 => ((x216 = 0 → wp cs mX12_stands KD (rI (GR d e nw th x) fun x350 m350 n350 => ((x350 = 0 → wp cs mX12_fail KD (rV (GR d e nw th x) fun m387 n387 => wp cs mX12_filter KD Q 390 [some (vR 124), some (vI l1), some (vI ((4 * l1) + (m28 184 l1.toNat))), none, none] [] (KD, m387, n387, (GR d e nw th x))) 0 (padL [vR 124, vI (-1), vI (m350 124 4)] 3) [] (KD, m350, n350, (GR d e nw th x))) ∧ (x350 ≠ 0 → (-2147483648 ≤ (m350 124 4) + 2 ∧ (m350 124 4) + 2 < 2147483648) ∧ ∀ m363, m363 = up2 m350 124 4 ((m350 124 4) + 2) → ∀ m372, m372 = up2 m363 185 ((4 * l1) + (m28 184 l1.toNat)).toNat 4 → wp cs mX12_quoted KD (rV (GR d e nw th x) fun m375 n375 => wp cs mX12_filter KD Q 390 [some (vR 124), some (vI l1), some (vI ((4 * l1) + (m28 184 l1.toNat))), none, none] [] (KD, m375, n375, (GR d e nw th x))) 0 (padL [vR 124, vI ((4 * l1) + (m28 184 l1.toNat))] 3) [] (KD, m372, n350, (GR d e nw th x))))) 0 (padL [vR 124, vL 11837, vI 2] 6) [] (KD, m216, n216, (GR d e nw th x))) ∧ (x216 ≠ 0 → wp cs mX12_octet KD (rI (GR d e nw th x) fun x232 m232 n232 => ((x232 = 64 → wp cs mX12_filter KD Q 245 [some (vR 124), some (vI l1), some (vI ((4 * l1) + (m28 184 l1.toNat))), none, none] [vI 1, vI ((4 * l1) + (m28 184 l1.toNat)), vR 188] (KD, m232, n232, (GR d e nw th x))) ∧ (x232 ≠ 64 → wp cs mX12_filter KD Q 245 [some (vR 124), some (vI l1), some (vI ((4 * l1) + (m28 184 l1.toNat))), none, none] [vI 0, vI ((4 * l1) + (m28 184 l1.toNat)), vR 188] (KD, m232, n232, (GR d e nw th x))))) 0 (padL [vR 124, vI (m216 124 4)] 2) [] (KD, m216, n216, (GR d e nw th x))))) 0 (padL [vI x213] 1) [] (KD, m213, n213, (GR d e nw th x))) 0 (padL [vR 124, vI (m200 124 4)] 2) [] (KD, m200, n200, (GR d e nw th x))))) 0 (padL [vR 124, vI (m168 124 4)] 2) [] (KD, m168, n168, (GR d e nw th x))) ∧ (x168 ≠ 0 → (-2147483648 ≤ (m168 124 4) + 6 ∧ (m168 124 4) + 6 < 2147483648) ∧ ∀ m182, m182 = up2 m168 124 4 ((m168 124 4) + 6) → ∀ m191, m191 = up2 m182 185 ((4 * l1) + (m28 184 l1.toNat)).toNat 1 → wp cs mX12_filter KD Q 390 [some (vR 124), some (vI l1), some (vI ((4 * l1) + (m28 184 l1.toNat))), none, none] [] (KD, m191, n168, (GR d e nw th x))))) 0 (padL [vR 124, vL 119165804619817, vI 6] 6) [] (KD, m74, n74, (GR d e nw th x))) ∧ (x74 ≠ 0 → wp cs mX12_filter KD Q 85 [some (vR 124), some (vI l1), some (vI ((4 * l1) + (m28 184 l1.toNat))), some (vI 0), some (vI 0)] [] (KD, m74, n74, (GR d e nw th x))))) 0 (padL [vL x64, vL 48, vL 57] 6) [] (KD, m64, n64, (GR d e nw th x))) 0 (padL [vR 124, vI (m58 124 4)] 2) [] (KD, m58, ML, (GR d e nw th x))))) :
    wp cs mX12_filter KD Q 0 (padL [vR 124, vI l1] 5) [] (KD, MI, ML, (GR d e nw th x)) := by
  refine wp_L (L' := [some (vR 124), some (vI l1), none, none, none]) rfl ?_
  refine wp_aload_n dX12_filter_0 rfl rfl (by first | exact Or.inl (by decide) | exact Or.inl (by omega) | exact Or.inr (by decide) | exact Or.inr (by omega)) ?_
  refine wp_getR dX12_filter_1 fX12_194 rfl (by decide) ?_
  refine wp_topR (x' := 184) rfl ?_
  refine wp_iload_n dX12_filter_4 rfl rfl ?_
  have c0 := h.1
  replace h := h.2
  refine wp_iald dX12_filter_5 rfl (by decide) c0 ?_
  refine wp_iconst dX12_filter_6 (by decide) ?_
  refine wp_icmp_ne (tgt := 21) dX12_filter_7 (by decide) (fun h7 => ?_) (fun h7 => ?_)
  · replace h := h.2 h7
    refine wp_aload_n dX12_filter_21 rfl rfl (by first | exact Or.inl (by decide) | exact Or.inl (by omega) | exact Or.inr (by decide) | exact Or.inr (by omega)) ?_
    refine wp_dup dX12_filter_22 (fun x e => by cases e) ?_
    refine wp_getI dX12_filter_23 fX12_276 rfl (by decide) ?_
    refine wp_iconst dX12_filter_26 (by decide) ?_
    have c1 := h.1
    replace h := h.2
    refine wp_iaddr dX12_filter_27 c1 ?_
    refine wp_putI dX12_filter_28 pX12_276 rfl (by decide) ?_
    refine wp_gI (fun m28 e28 => ?_)
    replace h := h m28 e28
    refine wp_iconst dX12_filter_31 (by decide) ?_
    refine wp_pc (pc' := 32) rfl ?_
    refine wp_iload_n dX12_filter_32 rfl rfl ?_
    have c2 := h.1
    replace h := h.2
    refine wp_imulr dX12_filter_33 c2 ?_
    refine wp_aload_n dX12_filter_34 rfl rfl (by first | exact Or.inl (by decide) | exact Or.inl (by omega) | exact Or.inr (by decide) | exact Or.inr (by omega)) ?_
    refine wp_getR dX12_filter_35 fX12_194 rfl (by decide) ?_
    refine wp_topR (x' := 184) rfl ?_
    refine wp_iload_n dX12_filter_38 rfl rfl ?_
    refine wp_iald dX12_filter_39 rfl (by decide) c0 ?_
    have c3 := h.1
    replace h := h.2
    refine wp_iaddr dX12_filter_40 c3 ?_
    refine wp_istore_n dX12_filter_41 rfl (by decide) (wp_L (L' := [some (vR 124), some (vI l1), some (vI ((4 * l1) + (m28 184 l1.toNat))), none, none]) rfl ?_)
    refine wp_pc (pc' := 42) rfl ?_
    refine wp_aload_n dX12_filter_42 rfl rfl (by first | exact Or.inl (by decide) | exact Or.inl (by omega) | exact Or.inr (by decide) | exact Or.inr (by omega)) ?_
    refine wp_getR dX12_filter_43 fX12_194 rfl (by decide) ?_
    refine wp_topR (x' := 184) rfl ?_
    refine wp_iload_n dX12_filter_46 rfl rfl ?_
    refine wp_dup2 dX12_filter_47 (fun x e => by cases e) (fun x e => by cases e) ?_
    refine wp_iald dX12_filter_48 rfl (by decide) c0 ?_
    refine wp_iconst dX12_filter_49 (by decide) ?_
    have c4 := h.1
    replace h := h.2
    refine wp_iaddr dX12_filter_50 c4 ?_
    refine wp_iast dX12_filter_51 rfl (by decide) c0 ?_
    refine wp_gI (fun m51 e51 => ?_)
    replace h := h m51 e51
    refine wp_pc (pc' := 52) rfl ?_
    refine wp_aload_n dX12_filter_52 rfl rfl (by first | exact Or.inl (by decide) | exact Or.inl (by omega) | exact Or.inr (by decide) | exact Or.inr (by omega)) ?_
    refine wp_getR dX12_filter_53 fX12_206 rfl (by decide) ?_
    refine wp_topR (x' := 188) rfl ?_
    refine wp_iload_n dX12_filter_56 rfl rfl ?_
    refine wp_iconst dX12_filter_57 (by decide) ?_
    have c5 := h.1
    replace h := h.2
    refine wp_zast dX12_filter_58 rfl (by decide) c5 (by decide) ?_
    refine wp_gI (fun m58 e58 => ?_)
    replace h := h m58 e58
    refine wp_aload_n dX12_filter_59 rfl rfl (by first | exact Or.inl (by decide) | exact Or.inl (by omega) | exact Or.inr (by decide) | exact Or.inr (by omega)) ?_
    refine wp_aload_n dX12_filter_60 rfl rfl (by first | exact Or.inl (by decide) | exact Or.inl (by omega) | exact Or.inr (by decide) | exact Or.inr (by omega)) ?_
    refine wp_getI dX12_filter_61 fX12_276 rfl (by decide) ?_
    refine wp_pc (pc' := 64) rfl ?_
    refine wp_cVq (n := 1) (mt' := mX12_octet) (as := [vI (m58 124 4)]) (rest := []) _ dX12_filter_64 lX12_279 kX12_octet vX12_octet (by decide) (by decide +kernel) rfl (Nat.le_of_ble_eq_true rfl) (by decide) rfl rfl rfl (Nat.le_of_ble_eq_true rfl) (fun hM hS => h) (fun r M' hq hM => ?_)
    obtain ⟨x64, m64, n64, rfl, rfl, h⟩ := rI_out hq
    refine wp_i2l dX12_filter_67 ?_
    refine wp_ldc2 (x := 48) dX12_filter_68 cX12_272 (by decide) ?_
    refine wp_ldc2 (x := 57) dX12_filter_71 cX12_274 (by decide) ?_
    refine wp_cSq (n := 3) (mt' := mX12_in) (as := [vL x64, vL 48, vL 57]) (rest := []) _ dX12_filter_74 lX12_256 kX12_in vX12_in (by decide) (by decide +kernel) rfl (Nat.le_of_ble_eq_true rfl) rfl (Nat.le_of_ble_eq_true rfl) (fun hM hS => h) (fun r M' hq hM => ?_)
    obtain ⟨x74, m74, n74, rfl, rfl, h⟩ := rI_out hq
    refine wp_if_eq (tgt := 162) dX12_filter_77 (by decide) (fun h77 => ?_) (fun h77 => ?_)
    · replace h := h.1 h77
      refine wp_aload_n dX12_filter_162 rfl rfl (by first | exact Or.inl (by decide) | exact Or.inl (by omega) | exact Or.inr (by decide) | exact Or.inr (by omega)) ?_
      refine wp_ldc2 (x := 119165804619817) dX12_filter_163 cX12_562 (by decide) ?_
      refine wp_bipush dX12_filter_166 (by decide +kernel) (by decide) ?_
      refine wp_cVq (n := 2) (mt' := mX12_stands) (as := [vL 119165804619817, vI 6]) (rest := []) _ dX12_filter_168 lX12_285 kX12_stands vX12_stands (by decide) (by decide +kernel) rfl (Nat.le_of_ble_eq_true rfl) (by decide) rfl rfl rfl (Nat.le_of_ble_eq_true rfl) (fun hM hS => h) (fun r M' hq hM => ?_)
      obtain ⟨x168, m168, n168, rfl, rfl, h⟩ := rI_out hq
      refine wp_if_eq (tgt := 195) dX12_filter_171 (by decide) (fun h171 => ?_) (fun h171 => ?_)
      · replace h := h.1 h171
        refine wp_aload_n dX12_filter_195 rfl rfl (by first | exact Or.inl (by decide) | exact Or.inl (by omega) | exact Or.inr (by decide) | exact Or.inr (by omega)) ?_
        refine wp_aload_n dX12_filter_196 rfl rfl (by first | exact Or.inl (by decide) | exact Or.inl (by omega) | exact Or.inr (by decide) | exact Or.inr (by omega)) ?_
        refine wp_getI dX12_filter_197 fX12_276 rfl (by decide) ?_
        refine wp_cVq (n := 1) (mt' := mX12_octet) (as := [vI (m168 124 4)]) (rest := []) _ dX12_filter_200 lX12_279 kX12_octet vX12_octet (by decide) (by decide +kernel) rfl (Nat.le_of_ble_eq_true rfl) (by decide) rfl rfl rfl (Nat.le_of_ble_eq_true rfl) (fun hM hS => h) (fun r M' hq hM => ?_)
        obtain ⟨x200, m200, n200, rfl, rfl, h⟩ := rI_out hq
        refine wp_bipush dX12_filter_203 (by decide +kernel) (by decide) ?_
        refine wp_icmp_eq (tgt := 222) dX12_filter_205 (by decide) (fun h205 => ?_) (fun h205 => ?_)
        · replace h := h.1 h205
          refine wp_aload_n dX12_filter_222 rfl rfl (by first | exact Or.inl (by decide) | exact Or.inl (by omega) | exact Or.inr (by decide) | exact Or.inr (by omega)) ?_
          refine wp_getR dX12_filter_223 fX12_206 rfl (by decide) ?_
          refine wp_topR (x' := 188) rfl ?_
          refine wp_iload_n dX12_filter_226 rfl rfl ?_
          refine wp_aload_n dX12_filter_227 rfl rfl (by first | exact Or.inl (by decide) | exact Or.inl (by omega) | exact Or.inr (by decide) | exact Or.inr (by omega)) ?_
          refine wp_aload_n dX12_filter_228 rfl rfl (by first | exact Or.inl (by decide) | exact Or.inl (by omega) | exact Or.inr (by decide) | exact Or.inr (by omega)) ?_
          refine wp_getI dX12_filter_229 fX12_276 rfl (by decide) ?_
          refine wp_cVq (n := 1) (mt' := mX12_octet) (as := [vI (m200 124 4)]) (rest := [vI ((4 * l1) + (m28 184 l1.toNat)), vR 188]) _ dX12_filter_232 lX12_279 kX12_octet vX12_octet (by decide) (by decide +kernel) rfl (Nat.le_of_ble_eq_true rfl) (by decide) rfl rfl rfl (Nat.le_of_ble_eq_true rfl) (fun hM hS => h) (fun r M' hq hM => ?_)
          obtain ⟨x232, m232, n232, rfl, rfl, h⟩ := rI_out hq
          refine wp_bipush dX12_filter_235 (by decide +kernel) (by decide) ?_
          refine wp_icmp_ne (tgt := 244) dX12_filter_237 (by decide) (fun h237 => ?_) (fun h237 => ?_)
          · replace h := h.2 h237
            refine wp_iconst dX12_filter_244 (by decide) ?_
            exact h
          · replace h := h.1 h237
            refine wp_iconst dX12_filter_240 (by decide) ?_
            refine wp_goto (tgt := 245) dX12_filter_241 (by decide) ?_
            exact h
        · replace h := h.2 h205
          refine wp_aload_n dX12_filter_208 rfl rfl (by first | exact Or.inl (by decide) | exact Or.inl (by omega) | exact Or.inr (by decide) | exact Or.inr (by omega)) ?_
          refine wp_aload_n dX12_filter_209 rfl rfl (by first | exact Or.inl (by decide) | exact Or.inl (by omega) | exact Or.inr (by decide) | exact Or.inr (by omega)) ?_
          refine wp_getI dX12_filter_210 fX12_276 rfl (by decide) ?_
          refine wp_cVq (n := 1) (mt' := mX12_octet) (as := [vI (m200 124 4)]) (rest := []) _ dX12_filter_213 lX12_279 kX12_octet vX12_octet (by decide) (by decide +kernel) rfl (Nat.le_of_ble_eq_true rfl) (by decide) rfl rfl rfl (Nat.le_of_ble_eq_true rfl) (fun hM hS => h) (fun r M' hq hM => ?_)
          obtain ⟨x213, m213, n213, rfl, rfl, h⟩ := rI_out hq
          refine wp_cSq (n := 1) (mt' := mX12_isFirst) (as := [vI x213]) (rest := []) _ dX12_filter_216 lX12_268 kX12_isFirst vX12_isFirst (by decide) (by decide +kernel) rfl (Nat.le_of_ble_eq_true rfl) rfl (Nat.le_of_ble_eq_true rfl) (fun hM hS => h) (fun r M' hq hM => ?_)
          obtain ⟨x216, m216, n216, rfl, rfl, h⟩ := rI_out hq
          refine wp_if_eq (tgt := 345) dX12_filter_219 (by decide) (fun h219 => ?_) (fun h219 => ?_)
          · replace h := h.1 h219
            refine wp_aload_n dX12_filter_345 rfl rfl (by first | exact Or.inl (by decide) | exact Or.inl (by omega) | exact Or.inr (by decide) | exact Or.inr (by omega)) ?_
            refine wp_ldc2 (x := 11837) dX12_filter_346 cX12_567 (by decide) ?_
            refine wp_iconst dX12_filter_349 (by decide) ?_
            refine wp_cVq (n := 2) (mt' := mX12_stands) (as := [vL 11837, vI 2]) (rest := []) _ dX12_filter_350 lX12_285 kX12_stands vX12_stands (by decide) (by decide +kernel) rfl (Nat.le_of_ble_eq_true rfl) (by decide) rfl rfl rfl (Nat.le_of_ble_eq_true rfl) (fun hM hS => h) (fun r M' hq hM => ?_)
            obtain ⟨x350, m350, n350, rfl, rfl, h⟩ := rI_out hq
            refine wp_if_eq (tgt := 381) dX12_filter_353 (by decide) (fun h353 => ?_) (fun h353 => ?_)
            · replace h := h.1 h353
              refine wp_aload_n dX12_filter_381 rfl rfl (by first | exact Or.inl (by decide) | exact Or.inl (by omega) | exact Or.inr (by decide) | exact Or.inr (by omega)) ?_
              refine wp_iconst dX12_filter_382 (by decide) ?_
              refine wp_aload_n dX12_filter_383 rfl rfl (by first | exact Or.inl (by decide) | exact Or.inl (by omega) | exact Or.inr (by decide) | exact Or.inr (by omega)) ?_
              refine wp_getI dX12_filter_384 fX12_276 rfl (by decide) ?_
              refine wp_cVq (n := 2) (mt' := mX12_fail) (as := [vI (-1), vI (m350 124 4)]) (rest := []) _ dX12_filter_387 lX12_293 kX12_fail vX12_fail (by decide) (by decide +kernel) rfl (Nat.le_of_ble_eq_true rfl) (by decide) rfl rfl rfl (Nat.le_of_ble_eq_true rfl) (fun hM hS => h) (fun r M' hq hM => ?_)
              obtain ⟨m387, n387, rfl, rfl, h⟩ := rV_out hq
              exact h
            · replace h := h.2 h353
              refine wp_aload_n dX12_filter_356 rfl rfl (by first | exact Or.inl (by decide) | exact Or.inl (by omega) | exact Or.inr (by decide) | exact Or.inr (by omega)) ?_
              refine wp_dup dX12_filter_357 (fun x e => by cases e) ?_
              refine wp_getI dX12_filter_358 fX12_276 rfl (by decide) ?_
              refine wp_iconst dX12_filter_361 (by decide) ?_
              have c6 := h.1
              replace h := h.2
              refine wp_iaddr dX12_filter_362 c6 ?_
              refine wp_putI dX12_filter_363 pX12_276 rfl (by decide) ?_
              refine wp_gI (fun m363 e363 => ?_)
              replace h := h m363 e363
              refine wp_aload_n dX12_filter_366 rfl rfl (by first | exact Or.inl (by decide) | exact Or.inl (by omega) | exact Or.inr (by decide) | exact Or.inr (by omega)) ?_
              refine wp_pc (pc' := 367) rfl ?_
              refine wp_getR dX12_filter_367 fX12_197 rfl (by decide) ?_
              refine wp_topR (x' := 185) rfl ?_
              refine wp_iload_n dX12_filter_370 rfl rfl ?_
              refine wp_iconst dX12_filter_371 (by decide) ?_
              refine wp_iast dX12_filter_372 rfl (by decide) c5 ?_
              refine wp_gI (fun m372 e372 => ?_)
              replace h := h m372 e372
              refine wp_aload_n dX12_filter_373 rfl rfl (by first | exact Or.inl (by decide) | exact Or.inl (by omega) | exact Or.inr (by decide) | exact Or.inr (by omega)) ?_
              refine wp_iload_n dX12_filter_374 rfl rfl ?_
              refine wp_cVq (n := 1) (mt' := mX12_quoted) (as := [vI ((4 * l1) + (m28 184 l1.toNat))]) (rest := []) _ dX12_filter_375 lX12_564 kX12_quoted vX12_quoted (by decide) (by decide +kernel) rfl (Nat.le_of_ble_eq_true rfl) (by decide) rfl rfl rfl (Nat.le_of_ble_eq_true rfl) (fun hM hS => h) (fun r M' hq hM => ?_)
              obtain ⟨m375, n375, rfl, rfl, h⟩ := rV_out hq
              refine wp_goto (tgt := 390) dX12_filter_378 (by decide) ?_
              exact h
          · replace h := h.2 h219
            refine wp_aload_n dX12_filter_222 rfl rfl (by first | exact Or.inl (by decide) | exact Or.inl (by omega) | exact Or.inr (by decide) | exact Or.inr (by omega)) ?_
            refine wp_getR dX12_filter_223 fX12_206 rfl (by decide) ?_
            refine wp_topR (x' := 188) rfl ?_
            refine wp_iload_n dX12_filter_226 rfl rfl ?_
            refine wp_aload_n dX12_filter_227 rfl rfl (by first | exact Or.inl (by decide) | exact Or.inl (by omega) | exact Or.inr (by decide) | exact Or.inr (by omega)) ?_
            refine wp_aload_n dX12_filter_228 rfl rfl (by first | exact Or.inl (by decide) | exact Or.inl (by omega) | exact Or.inr (by decide) | exact Or.inr (by omega)) ?_
            refine wp_getI dX12_filter_229 fX12_276 rfl (by decide) ?_
            refine wp_cVq (n := 1) (mt' := mX12_octet) (as := [vI (m216 124 4)]) (rest := [vI ((4 * l1) + (m28 184 l1.toNat)), vR 188]) _ dX12_filter_232 lX12_279 kX12_octet vX12_octet (by decide) (by decide +kernel) rfl (Nat.le_of_ble_eq_true rfl) (by decide) rfl rfl rfl (Nat.le_of_ble_eq_true rfl) (fun hM hS => h) (fun r M' hq hM => ?_)
            obtain ⟨x232, m232, n232, rfl, rfl, h⟩ := rI_out hq
            refine wp_bipush dX12_filter_235 (by decide +kernel) (by decide) ?_
            refine wp_icmp_ne (tgt := 244) dX12_filter_237 (by decide) (fun h237 => ?_) (fun h237 => ?_)
            · replace h := h.2 h237
              refine wp_iconst dX12_filter_244 (by decide) ?_
              exact h
            · replace h := h.1 h237
              refine wp_iconst dX12_filter_240 (by decide) ?_
              refine wp_goto (tgt := 245) dX12_filter_241 (by decide) ?_
              exact h
      · replace h := h.2 h171
        refine wp_aload_n dX12_filter_174 rfl rfl (by first | exact Or.inl (by decide) | exact Or.inl (by omega) | exact Or.inr (by decide) | exact Or.inr (by omega)) ?_
        refine wp_dup dX12_filter_175 (fun x e => by cases e) ?_
        refine wp_getI dX12_filter_176 fX12_276 rfl (by decide) ?_
        refine wp_bipush dX12_filter_179 (by decide +kernel) (by decide) ?_
        have c6 := h.1
        replace h := h.2
        refine wp_iaddr dX12_filter_181 c6 ?_
        refine wp_putI dX12_filter_182 pX12_276 rfl (by decide) ?_
        refine wp_gI (fun m182 e182 => ?_)
        replace h := h m182 e182
        refine wp_aload_n dX12_filter_185 rfl rfl (by first | exact Or.inl (by decide) | exact Or.inl (by omega) | exact Or.inr (by decide) | exact Or.inr (by omega)) ?_
        refine wp_pc (pc' := 186) rfl ?_
        refine wp_getR dX12_filter_186 fX12_197 rfl (by decide) ?_
        refine wp_topR (x' := 185) rfl ?_
        refine wp_iload_n dX12_filter_189 rfl rfl ?_
        refine wp_iconst dX12_filter_190 (by decide) ?_
        refine wp_iast dX12_filter_191 rfl (by decide) c5 ?_
        refine wp_gI (fun m191 e191 => ?_)
        replace h := h m191 e191
        refine wp_goto (tgt := 390) dX12_filter_192 (by decide) ?_
        exact h
    · replace h := h.2 h77
      refine wp_iconst dX12_filter_80 (by decide) ?_
      refine wp_istore_n dX12_filter_81 rfl (by decide) (wp_L (L' := [some (vR 124), some (vI l1), some (vI ((4 * l1) + (m28 184 l1.toNat))), some (vI 0), none]) rfl ?_)
      refine wp_iconst dX12_filter_82 (by decide) ?_
      refine wp_istore dX12_filter_83 (by decide) (wp_L (L' := [some (vR 124), some (vI l1), some (vI ((4 * l1) + (m28 184 l1.toNat))), some (vI 0), some (vI 0)]) rfl ?_)
      exact h
  · replace h := h.1 h7
    refine wp_aload_n dX12_filter_10 rfl rfl (by first | exact Or.inl (by decide) | exact Or.inl (by omega) | exact Or.inr (by decide) | exact Or.inr (by omega)) ?_
    refine wp_bipush dX12_filter_11 (by decide +kernel) (by decide) ?_
    refine wp_aload_n dX12_filter_13 rfl rfl (by first | exact Or.inl (by decide) | exact Or.inl (by omega) | exact Or.inr (by decide) | exact Or.inr (by omega)) ?_
    refine wp_getI dX12_filter_14 fX12_276 rfl (by decide) ?_
    refine wp_cVq (n := 2) (mt' := mX12_fail) (as := [vI (-3), vI (MI 124 4)]) (rest := []) _ dX12_filter_17 lX12_293 kX12_fail vX12_fail (by decide) (by decide +kernel) rfl (Nat.le_of_ble_eq_true rfl) (by decide) rfl rfl rfl (Nat.le_of_ble_eq_true rfl) (fun hM hS => h) (fun r M' hq hM => ?_)
    obtain ⟨m17, n17, rfl, rfl, h⟩ := rV_out hq
    exact wp_vret dX12_filter_20 rfl (fun _ => h)
theorem v_X12_filter_85 {cs : Cs} {Q : Option AV → Mm → Prop} {MI ML : Nat → Nat → Int} {d e nw th x : Nat} {l1 l2 l3 l4 : Int}
    (h : ((l4 < 4 → wp cs mX12_octet KD (rI (GR d e nw th x) fun x96 m96 n96 => wp cs mX12_in KD (rI (GR d e nw th x) fun x106 m106 n106 => ((x106 = 0 → (0 ≤ l2 ∧ l2 < 48) ∧ ∀ m151, m151 = up2 m106 185 l2.toNat 0 → ∀ m158, m158 = up2 m151 186 l2.toNat l3 → wp cs mX12_filter KD Q 390 [some (vR 124), some (vI l1), some (vI l2), none, none] [] (KD, m158, n106, (GR d e nw th x))) ∧ (x106 ≠ 0 → (-2147483648 ≤ 10 * l3 ∧ 10 * l3 < 2147483648) ∧ wp cs mX12_octet KD (rI (GR d e nw th x) fun x121 m121 n121 => (-2147483648 ≤ (10 * l3) + x121 ∧ (10 * l3) + x121 < 2147483648) ∧ (-2147483648 ≤ ((10 * l3) + x121) - 48 ∧ ((10 * l3) + x121) - 48 < 2147483648) ∧ (-2147483648 ≤ (m121 124 4) + 1 ∧ (m121 124 4) + 1 < 2147483648) ∧ ∀ m136, m136 = up2 m121 124 4 ((m121 124 4) + 1) → (-2147483648 ≤ l4 + 1 ∧ l4 + 1 < 2147483648) ∧ wp cs mX12_filter KD Q 85 [some (vR 124), some (vI l1), some (vI l2), some (vI (((10 * l3) + x121) - 48)), some (vI (l4 + 1))] [] (KD, m136, n121, (GR d e nw th x))) 0 (padL [vR 124, vI (m106 124 4)] 2) [] (KD, m106, n106, (GR d e nw th x))))) 0 (padL [vL x96, vL 48, vL 57] 6) [] (KD, m96, n96, (GR d e nw th x))) 0 (padL [vR 124, vI (MI 124 4)] 2) [] (KD, MI, ML, (GR d e nw th x))) ∧ (4 ≤ l4 → (0 ≤ l2 ∧ l2 < 48) ∧ ∀ m151, m151 = up2 MI 185 l2.toNat 0 → ∀ m158, m158 = up2 m151 186 l2.toNat l3 → wp cs mX12_filter KD Q 390 [some (vR 124), some (vI l1), some (vI l2), none, none] [] (KD, m158, ML, (GR d e nw th x))))) :
    wp cs mX12_filter KD Q 85 [some (vR 124), some (vI l1), some (vI l2), some (vI l3), some (vI l4)] [] (KD, MI, ML, (GR d e nw th x)) := by
  refine wp_iload dX12_filter_85 rfl ?_
  refine wp_iconst dX12_filter_87 (by decide) ?_
  refine wp_icmp_ge (tgt := 145) dX12_filter_88 (by decide) (fun h88 => ?_) (fun h88 => ?_)
  · replace h := h.2 h88
    refine wp_aload_n dX12_filter_145 rfl rfl (by first | exact Or.inl (by decide) | exact Or.inl (by omega) | exact Or.inr (by decide) | exact Or.inr (by omega)) ?_
    refine wp_getR dX12_filter_146 fX12_197 rfl (by decide) ?_
    refine wp_topR (x' := 185) rfl ?_
    refine wp_iload_n dX12_filter_149 rfl rfl ?_
    refine wp_iconst dX12_filter_150 (by decide) ?_
    have c0 := h.1
    replace h := h.2
    refine wp_iast dX12_filter_151 rfl (by decide) c0 ?_
    refine wp_gI (fun m151 e151 => ?_)
    replace h := h m151 e151
    refine wp_aload_n dX12_filter_152 rfl rfl (by first | exact Or.inl (by decide) | exact Or.inl (by omega) | exact Or.inr (by decide) | exact Or.inr (by omega)) ?_
    refine wp_getR dX12_filter_153 fX12_200 rfl (by decide) ?_
    refine wp_topR (x' := 186) rfl ?_
    refine wp_pc (pc' := 156) rfl ?_
    refine wp_iload_n dX12_filter_156 rfl rfl ?_
    refine wp_iload_n dX12_filter_157 rfl rfl ?_
    refine wp_iast dX12_filter_158 rfl (by decide) c0 ?_
    refine wp_gI (fun m158 e158 => ?_)
    replace h := h m158 e158
    refine wp_goto (tgt := 390) dX12_filter_159 (by decide) ?_
    refine wp_forget (L' := [some (vR 124), some (vI l1), some (vI l2), none, none]) (by repeat' (first | exact trivial | refine ⟨rfl, ?_⟩)) ?_
    exact h
  · replace h := h.1 h88
    refine wp_aload_n dX12_filter_91 rfl rfl (by first | exact Or.inl (by decide) | exact Or.inl (by omega) | exact Or.inr (by decide) | exact Or.inr (by omega)) ?_
    refine wp_aload_n dX12_filter_92 rfl rfl (by first | exact Or.inl (by decide) | exact Or.inl (by omega) | exact Or.inr (by decide) | exact Or.inr (by omega)) ?_
    refine wp_getI dX12_filter_93 fX12_276 rfl (by decide) ?_
    refine wp_cVq (n := 1) (mt' := mX12_octet) (as := [vI (MI 124 4)]) (rest := []) _ dX12_filter_96 lX12_279 kX12_octet vX12_octet (by decide) (by decide +kernel) rfl (Nat.le_of_ble_eq_true rfl) (by decide) rfl rfl rfl (Nat.le_of_ble_eq_true rfl) (fun hM hS => h) (fun r M' hq hM => ?_)
    obtain ⟨x96, m96, n96, rfl, rfl, h⟩ := rI_out hq
    refine wp_i2l dX12_filter_99 ?_
    refine wp_ldc2 (x := 48) dX12_filter_100 cX12_272 (by decide) ?_
    refine wp_ldc2 (x := 57) dX12_filter_103 cX12_274 (by decide) ?_
    refine wp_cSq (n := 3) (mt' := mX12_in) (as := [vL x96, vL 48, vL 57]) (rest := []) _ dX12_filter_106 lX12_256 kX12_in vX12_in (by decide) (by decide +kernel) rfl (Nat.le_of_ble_eq_true rfl) rfl (Nat.le_of_ble_eq_true rfl) (fun hM hS => h) (fun r M' hq hM => ?_)
    obtain ⟨x106, m106, n106, rfl, rfl, h⟩ := rI_out hq
    refine wp_if_eq (tgt := 145) dX12_filter_109 (by decide) (fun h109 => ?_) (fun h109 => ?_)
    · replace h := h.1 h109
      refine wp_aload_n dX12_filter_145 rfl rfl (by first | exact Or.inl (by decide) | exact Or.inl (by omega) | exact Or.inr (by decide) | exact Or.inr (by omega)) ?_
      refine wp_getR dX12_filter_146 fX12_197 rfl (by decide) ?_
      refine wp_topR (x' := 185) rfl ?_
      refine wp_iload_n dX12_filter_149 rfl rfl ?_
      refine wp_iconst dX12_filter_150 (by decide) ?_
      have c0 := h.1
      replace h := h.2
      refine wp_iast dX12_filter_151 rfl (by decide) c0 ?_
      refine wp_gI (fun m151 e151 => ?_)
      replace h := h m151 e151
      refine wp_aload_n dX12_filter_152 rfl rfl (by first | exact Or.inl (by decide) | exact Or.inl (by omega) | exact Or.inr (by decide) | exact Or.inr (by omega)) ?_
      refine wp_getR dX12_filter_153 fX12_200 rfl (by decide) ?_
      refine wp_topR (x' := 186) rfl ?_
      refine wp_pc (pc' := 156) rfl ?_
      refine wp_iload_n dX12_filter_156 rfl rfl ?_
      refine wp_iload_n dX12_filter_157 rfl rfl ?_
      refine wp_iast dX12_filter_158 rfl (by decide) c0 ?_
      refine wp_gI (fun m158 e158 => ?_)
      replace h := h m158 e158
      refine wp_goto (tgt := 390) dX12_filter_159 (by decide) ?_
      refine wp_forget (L' := [some (vR 124), some (vI l1), some (vI l2), none, none]) (by repeat' (first | exact trivial | refine ⟨rfl, ?_⟩)) ?_
      exact h
    · replace h := h.2 h109
      refine wp_bipush dX12_filter_112 (by decide +kernel) (by decide) ?_
      refine wp_iload_n dX12_filter_114 rfl rfl ?_
      have c0 := h.1
      replace h := h.2
      refine wp_imulr dX12_filter_115 c0 ?_
      refine wp_aload_n dX12_filter_116 rfl rfl (by first | exact Or.inl (by decide) | exact Or.inl (by omega) | exact Or.inr (by decide) | exact Or.inr (by omega)) ?_
      refine wp_aload_n dX12_filter_117 rfl rfl (by first | exact Or.inl (by decide) | exact Or.inl (by omega) | exact Or.inr (by decide) | exact Or.inr (by omega)) ?_
      refine wp_getI dX12_filter_118 fX12_276 rfl (by decide) ?_
      refine wp_cVq (n := 1) (mt' := mX12_octet) (as := [vI (m106 124 4)]) (rest := [vI (10 * l3)]) _ dX12_filter_121 lX12_279 kX12_octet vX12_octet (by decide) (by decide +kernel) rfl (Nat.le_of_ble_eq_true rfl) (by decide) rfl rfl rfl (Nat.le_of_ble_eq_true rfl) (fun hM hS => h) (fun r M' hq hM => ?_)
      obtain ⟨x121, m121, n121, rfl, rfl, h⟩ := rI_out hq
      have c1 := h.1
      replace h := h.2
      refine wp_iaddr dX12_filter_124 c1 ?_
      refine wp_bipush dX12_filter_125 (by decide +kernel) (by decide) ?_
      have c2 := h.1
      replace h := h.2
      refine wp_isubr dX12_filter_127 c2 ?_
      refine wp_istore_n dX12_filter_128 rfl (by decide) (wp_L (L' := [some (vR 124), some (vI l1), some (vI l2), some (vI (((10 * l3) + x121) - 48)), some (vI l4)]) rfl ?_)
      refine wp_aload_n dX12_filter_129 rfl rfl (by first | exact Or.inl (by decide) | exact Or.inl (by omega) | exact Or.inr (by decide) | exact Or.inr (by omega)) ?_
      refine wp_dup dX12_filter_130 (fun x e => by cases e) ?_
      refine wp_getI dX12_filter_131 fX12_276 rfl (by decide) ?_
      refine wp_pc (pc' := 134) rfl ?_
      refine wp_iconst dX12_filter_134 (by decide) ?_
      have c3 := h.1
      replace h := h.2
      refine wp_iaddr dX12_filter_135 c3 ?_
      refine wp_putI dX12_filter_136 pX12_276 rfl (by decide) ?_
      refine wp_gI (fun m136 e136 => ?_)
      replace h := h m136 e136
      have c4 := h.1
      replace h := h.2
      refine wp_iincr dX12_filter_139 rfl (by decide) c4 (wp_L (L' := [some (vR 124), some (vI l1), some (vI l2), some (vI (((10 * l3) + x121) - 48)), some (vI (l4 + 1))]) rfl ?_)
      refine wp_goto (tgt := 85) dX12_filter_142 (by decide) ?_
      exact h
theorem v_X12_filter_245 {cs : Cs} {Q : Option AV → Mm → Prop} {MI ML : Nat → Nat → Int} {d e nw th x : Nat} {l1 l2 s0 s1 : Int}
    (h : (0 ≤ s1 ∧ s1 < 48) ∧ (s0 = 0 ∨ s0 = 1) ∧ ∀ m245, m245 = up2 MI 188 s1.toNat s0 → wp cs mX12_octet KD (rI (GR d e nw th x) fun x256 m256 n256 => ((x256 = 64 → wp cs mX12_filter KD Q 269 [some (vR 124), some (vI l1), some (vI l2), none, none] [vI 1, vI (m245 124 4), vR 124] (KD, m256, n256, (GR d e nw th x))) ∧ (x256 ≠ 64 → wp cs mX12_filter KD Q 269 [some (vR 124), some (vI l1), some (vI l2), none, none] [vI 0, vI (m245 124 4), vR 124] (KD, m256, n256, (GR d e nw th x))))) 0 (padL [vR 124, vI (m245 124 4)] 2) [] (KD, m245, ML, (GR d e nw th x))) :
    wp cs mX12_filter KD Q 245 [some (vR 124), some (vI l1), some (vI l2), none, none] [vI s0, vI s1, vR 188] (KD, MI, ML, (GR d e nw th x)) := by
  have c0 := h.1
  replace h := h.2
  have c1 := h.1
  replace h := h.2
  refine wp_zast dX12_filter_245 rfl (by decide) c0 c1 ?_
  refine wp_gI (fun m245 e245 => ?_)
  replace h := h m245 e245
  refine wp_aload_n dX12_filter_246 rfl rfl (by first | exact Or.inl (by decide) | exact Or.inl (by omega) | exact Or.inr (by decide) | exact Or.inr (by omega)) ?_
  refine wp_dup dX12_filter_247 (fun x e => by cases e) ?_
  refine wp_getI dX12_filter_248 fX12_276 rfl (by decide) ?_
  refine wp_aload_n dX12_filter_251 rfl rfl (by first | exact Or.inl (by decide) | exact Or.inl (by omega) | exact Or.inr (by decide) | exact Or.inr (by omega)) ?_
  refine wp_aload_n dX12_filter_252 rfl rfl (by first | exact Or.inl (by decide) | exact Or.inl (by omega) | exact Or.inr (by decide) | exact Or.inr (by omega)) ?_
  refine wp_getI dX12_filter_253 fX12_276 rfl (by decide) ?_
  refine wp_pc (pc' := 256) rfl ?_
  refine wp_cVq (n := 1) (mt' := mX12_octet) (as := [vI (m245 124 4)]) (rest := [vI (m245 124 4), vR 124]) _ dX12_filter_256 lX12_279 kX12_octet vX12_octet (by decide) (by decide +kernel) rfl (Nat.le_of_ble_eq_true rfl) (by decide) rfl rfl rfl (Nat.le_of_ble_eq_true rfl) (fun hM hS => h) (fun r M' hq hM => ?_)
  obtain ⟨x256, m256, n256, rfl, rfl, h⟩ := rI_out hq
  refine wp_bipush dX12_filter_259 (by decide +kernel) (by decide) ?_
  refine wp_icmp_ne (tgt := 268) dX12_filter_261 (by decide) (fun h261 => ?_) (fun h261 => ?_)
  · replace h := h.2 h261
    refine wp_iconst dX12_filter_268 (by decide) ?_
    exact h
  · replace h := h.1 h261
    refine wp_iconst dX12_filter_264 (by decide) ?_
    refine wp_goto (tgt := 269) dX12_filter_265 (by decide) ?_
    exact h
theorem v_X12_filter_269 {cs : Cs} {Q : Option AV → Mm → Prop} {MI ML : Nat → Nat → Int} {d e nw th x : Nat} {l1 l2 s0 s1 : Int}
    (h : (-2147483648 ≤ s1 + s0 ∧ s1 + s0 < 2147483648) ∧ ∀ m270, m270 = up2 MI 124 4 (s1 + s0) → wp cs mX12_takeName KD (rI (GR d e nw th x) fun x279 m279 n279 => (0 ≤ l2 ∧ l2 < 48) ∧ ∀ m282, m282 = up2 m279 186 l2.toNat x279 → ∀ m292, m292 = up2 m282 187 l2.toNat (m282 124 51) → ∀ m299, m299 = up2 m292 185 l2.toNat 2 → wp cs mX12_isGood KD (rI (GR d e nw th x) fun x301 m301 n301 => ((x301 = 0 → wp cs mX12_filter KD Q 390 [some (vR 124), some (vI l1), some (vI l2), none, none] [] (KD, m301, n301, (GR d e nw th x))) ∧ (x301 ≠ 0 → wp cs mX12_octet KD (rI (GR d e nw th x) fun x312 m312 n312 => ((x312 = 61 → (-2147483648 ≤ (m312 124 4) + 1 ∧ (m312 124 4) + 1 < 2147483648) ∧ ∀ m327, m327 = up2 m312 124 4 ((m312 124 4) + 1) → ∀ m336, m336 = up2 m327 185 l2.toNat 3 → wp cs mX12_quoted KD (rV (GR d e nw th x) fun m339 n339 => wp cs mX12_filter KD Q 390 [some (vR 124), some (vI l1), some (vI l2), none, none] [] (KD, m339, n339, (GR d e nw th x))) 0 (padL [vR 124, vI l2] 3) [] (KD, m336, n312, (GR d e nw th x))) ∧ (x312 ≠ 61 → wp cs mX12_filter KD Q 390 [some (vR 124), some (vI l1), some (vI l2), none, none] [] (KD, m312, n312, (GR d e nw th x))))) 0 (padL [vR 124, vI (m301 124 4)] 2) [] (KD, m301, n301, (GR d e nw th x))))) 0 (padL [vR 124] 1) [] (KD, m299, n279, (GR d e nw th x))) 0 (padL [vR 124] 2) [] (KD, m270, ML, (GR d e nw th x))) :
    wp cs mX12_filter KD Q 269 [some (vR 124), some (vI l1), some (vI l2), none, none] [vI s0, vI s1, vR 124] (KD, MI, ML, (GR d e nw th x)) := by
  have c0 := h.1
  replace h := h.2
  refine wp_iaddr dX12_filter_269 c0 ?_
  refine wp_putI dX12_filter_270 pX12_276 rfl (by decide) ?_
  refine wp_gI (fun m270 e270 => ?_)
  replace h := h m270 e270
  refine wp_aload_n dX12_filter_273 rfl rfl (by first | exact Or.inl (by decide) | exact Or.inl (by omega) | exact Or.inr (by decide) | exact Or.inr (by omega)) ?_
  refine wp_getR dX12_filter_274 fX12_200 rfl (by decide) ?_
  refine wp_topR (x' := 186) rfl ?_
  refine wp_iload_n dX12_filter_277 rfl rfl ?_
  refine wp_aload_n dX12_filter_278 rfl rfl (by first | exact Or.inl (by decide) | exact Or.inl (by omega) | exact Or.inr (by decide) | exact Or.inr (by omega)) ?_
  refine wp_cVq (n := 0) (mt' := mX12_takeName) (as := []) (rest := [vI l2, vR 186]) _ dX12_filter_279 lX12_351 kX12_takeName vX12_takeName (by decide) (by decide +kernel) rfl (Nat.le_of_ble_eq_true rfl) (by decide) rfl rfl rfl (Nat.le_of_ble_eq_true rfl) (fun hM hS => h) (fun r M' hq hM => ?_)
  obtain ⟨x279, m279, n279, rfl, rfl, h⟩ := rI_out hq
  have c1 := h.1
  replace h := h.2
  refine wp_iast dX12_filter_282 rfl (by decide) c1 ?_
  refine wp_gI (fun m282 e282 => ?_)
  replace h := h m282 e282
  refine wp_aload_n dX12_filter_283 rfl rfl (by first | exact Or.inl (by decide) | exact Or.inl (by omega) | exact Or.inr (by decide) | exact Or.inr (by omega)) ?_
  refine wp_getR dX12_filter_284 fX12_203 rfl (by decide) ?_
  refine wp_topR (x' := 187) rfl ?_
  refine wp_iload_n dX12_filter_287 rfl rfl ?_
  refine wp_aload_n dX12_filter_288 rfl rfl (by first | exact Or.inl (by decide) | exact Or.inl (by omega) | exact Or.inr (by decide) | exact Or.inr (by omega)) ?_
  refine wp_getI dX12_filter_289 fX12_306 rfl (by decide) ?_
  refine wp_iast dX12_filter_292 rfl (by decide) c1 ?_
  refine wp_gI (fun m292 e292 => ?_)
  replace h := h m292 e292
  refine wp_pc (pc' := 293) rfl ?_
  refine wp_aload_n dX12_filter_293 rfl rfl (by first | exact Or.inl (by decide) | exact Or.inl (by omega) | exact Or.inr (by decide) | exact Or.inr (by omega)) ?_
  refine wp_getR dX12_filter_294 fX12_197 rfl (by decide) ?_
  refine wp_topR (x' := 185) rfl ?_
  refine wp_iload_n dX12_filter_297 rfl rfl ?_
  refine wp_iconst dX12_filter_298 (by decide) ?_
  refine wp_iast dX12_filter_299 rfl (by decide) c1 ?_
  refine wp_gI (fun m299 e299 => ?_)
  replace h := h m299 e299
  refine wp_aload_n dX12_filter_300 rfl rfl (by first | exact Or.inl (by decide) | exact Or.inl (by omega) | exact Or.inr (by decide) | exact Or.inr (by omega)) ?_
  refine wp_cVq (n := 0) (mt' := mX12_isGood) (as := []) (rest := []) _ dX12_filter_301 lX12_289 kX12_isGood vX12_isGood (by decide) (by decide +kernel) rfl (Nat.le_of_ble_eq_true rfl) (by decide) rfl rfl rfl (Nat.le_of_ble_eq_true rfl) (fun hM hS => h) (fun r M' hq hM => ?_)
  obtain ⟨x301, m301, n301, rfl, rfl, h⟩ := rI_out hq
  refine wp_if_eq (tgt := 390) dX12_filter_304 (by decide) (fun h304 => ?_) (fun h304 => ?_)
  · replace h := h.1 h304
    exact h
  · replace h := h.2 h304
    refine wp_aload_n dX12_filter_307 rfl rfl (by first | exact Or.inl (by decide) | exact Or.inl (by omega) | exact Or.inr (by decide) | exact Or.inr (by omega)) ?_
    refine wp_aload_n dX12_filter_308 rfl rfl (by first | exact Or.inl (by decide) | exact Or.inl (by omega) | exact Or.inr (by decide) | exact Or.inr (by omega)) ?_
    refine wp_getI dX12_filter_309 fX12_276 rfl (by decide) ?_
    refine wp_cVq (n := 1) (mt' := mX12_octet) (as := [vI (m301 124 4)]) (rest := []) _ dX12_filter_312 lX12_279 kX12_octet vX12_octet (by decide) (by decide +kernel) rfl (Nat.le_of_ble_eq_true rfl) (by decide) rfl rfl rfl (Nat.le_of_ble_eq_true rfl) (fun hM hS => h) (fun r M' hq hM => ?_)
    obtain ⟨x312, m312, n312, rfl, rfl, h⟩ := rI_out hq
    refine wp_bipush dX12_filter_315 (by decide +kernel) (by decide) ?_
    refine wp_icmp_ne (tgt := 390) dX12_filter_317 (by decide) (fun h317 => ?_) (fun h317 => ?_)
    · replace h := h.2 h317
      exact h
    · replace h := h.1 h317
      refine wp_aload_n dX12_filter_320 rfl rfl (by first | exact Or.inl (by decide) | exact Or.inl (by omega) | exact Or.inr (by decide) | exact Or.inr (by omega)) ?_
      refine wp_dup dX12_filter_321 (fun x e => by cases e) ?_
      refine wp_getI dX12_filter_322 fX12_276 rfl (by decide) ?_
      refine wp_iconst dX12_filter_325 (by decide) ?_
      have c2 := h.1
      replace h := h.2
      refine wp_iaddr dX12_filter_326 c2 ?_
      refine wp_putI dX12_filter_327 pX12_276 rfl (by decide) ?_
      refine wp_gI (fun m327 e327 => ?_)
      replace h := h m327 e327
      refine wp_aload_n dX12_filter_330 rfl rfl (by first | exact Or.inl (by decide) | exact Or.inl (by omega) | exact Or.inr (by decide) | exact Or.inr (by omega)) ?_
      refine wp_pc (pc' := 331) rfl ?_
      refine wp_getR dX12_filter_331 fX12_197 rfl (by decide) ?_
      refine wp_topR (x' := 185) rfl ?_
      refine wp_iload_n dX12_filter_334 rfl rfl ?_
      refine wp_iconst dX12_filter_335 (by decide) ?_
      refine wp_iast dX12_filter_336 rfl (by decide) c1 ?_
      refine wp_gI (fun m336 e336 => ?_)
      replace h := h m336 e336
      refine wp_aload_n dX12_filter_337 rfl rfl (by first | exact Or.inl (by decide) | exact Or.inl (by omega) | exact Or.inr (by decide) | exact Or.inr (by omega)) ?_
      refine wp_iload_n dX12_filter_338 rfl rfl ?_
      refine wp_cVq (n := 1) (mt' := mX12_quoted) (as := [vI l2]) (rest := []) _ dX12_filter_339 lX12_564 kX12_quoted vX12_quoted (by decide) (by decide +kernel) rfl (Nat.le_of_ble_eq_true rfl) (by decide) rfl rfl rfl (Nat.le_of_ble_eq_true rfl) (fun hM hS => h) (fun r M' hq hM => ?_)
      obtain ⟨m339, n339, rfl, rfl, h⟩ := rV_out hq
      refine wp_goto (tgt := 390) dX12_filter_342 (by decide) ?_
      exact h
theorem v_X12_filter_390 {cs : Cs} {Q : Option AV → Mm → Prop} {MI ML : Nat → Nat → Int} {d e nw th x : Nat} {l1 l2 : Int}
    (h : wp cs mX12_passes KD (rI (GR d e nw th x) fun x393 m393 n393 => Q none (m393, n393, (GR d e nw th x))) 0 (padL [vR 124, vI 93] 2) [] (KD, MI, ML, (GR d e nw th x))) :
    wp cs mX12_filter KD Q 390 [some (vR 124), some (vI l1), some (vI l2), none, none] [] (KD, MI, ML, (GR d e nw th x)) := by
  refine wp_aload_n dX12_filter_390 rfl rfl (by first | exact Or.inl (by decide) | exact Or.inl (by omega) | exact Or.inr (by decide) | exact Or.inr (by omega)) ?_
  refine wp_bipush dX12_filter_391 (by decide +kernel) (by decide) ?_
  refine wp_cVq (n := 1) (mt' := mX12_passes) (as := [vI 93]) (rest := []) _ dX12_filter_393 lX12_340 kX12_passes vX12_passes (by decide) (by decide +kernel) rfl (Nat.le_of_ble_eq_true rfl) (by decide) rfl rfl rfl (Nat.le_of_ble_eq_true rfl) (fun hM hS => h) (fun r M' hq hM => ?_)
  obtain ⟨x393, m393, n393, rfl, rfl, h⟩ := rI_out hq
  refine wp_istore_n dX12_filter_396 rfl (by decide) (wp_L (L' := [some (vR 124), some (vI l1), some (vI l2), some (vI x393), none]) rfl ?_)
  exact wp_vret dX12_filter_397 rfl (fun _ => h)
theorem dX12_step_0 : decode cX12_step 0 = .ok (.aload_n 0, 1) := by decide +kernel
theorem dX12_step_1 : decode cX12_step 1 = .ok (.getfield 569, 3) := by decide +kernel
theorem dX12_step_4 : decode cX12_step 4 = .ok (.bipush 12, 2) := by decide +kernel
theorem dX12_step_6 : decode cX12_step 6 = .ok (.if_icmp .ne 81, 3) := by decide +kernel
theorem dX12_step_9 : decode cX12_step 9 = .ok (.aload_n 0, 1) := by decide +kernel
theorem dX12_step_10 : decode cX12_step 10 = .ok (.aload_n 0, 1) := by decide +kernel
theorem dX12_step_11 : decode cX12_step 11 = .ok (.getfield 276, 3) := by decide +kernel
theorem dX12_step_14 : decode cX12_step 14 = .ok (.invokevirtual 279, 3) := by decide +kernel
theorem dX12_step_17 : decode cX12_step 17 = .ok (.bipush 46, 2) := by decide +kernel
theorem dX12_step_19 : decode cX12_step 19 = .ok (.if_icmp .eq 43, 3) := by decide +kernel
theorem dX12_step_22 : decode cX12_step 22 = .ok (.aload_n 0, 1) := by decide +kernel
theorem dX12_step_23 : decode cX12_step 23 = .ok (.aload_n 0, 1) := by decide +kernel
theorem dX12_step_24 : decode cX12_step 24 = .ok (.getfield 276, 3) := by decide +kernel
theorem dX12_step_27 : decode cX12_step 27 = .ok (.invokevirtual 279, 3) := by decide +kernel
theorem dX12_step_30 : decode cX12_step 30 = .ok (.bipush 64, 2) := by decide +kernel
theorem dX12_step_32 : decode cX12_step 32 = .ok (.if_icmp .eq 30, 3) := by decide +kernel
theorem dX12_step_35 : decode cX12_step 35 = .ok (.aload_n 0, 1) := by decide +kernel
theorem dX12_step_36 : decode cX12_step 36 = .ok (.aload_n 0, 1) := by decide +kernel
theorem dX12_step_37 : decode cX12_step 37 = .ok (.getfield 276, 3) := by decide +kernel
theorem dX12_step_40 : decode cX12_step 40 = .ok (.invokevirtual 279, 3) := by decide +kernel
theorem dX12_step_43 : decode cX12_step 43 = .ok (.bipush 42, 2) := by decide +kernel
theorem dX12_step_45 : decode cX12_step 45 = .ok (.if_icmp .eq 17, 3) := by decide +kernel
theorem dX12_step_48 : decode cX12_step 48 = .ok (.aload_n 0, 1) := by decide +kernel
theorem dX12_step_49 : decode cX12_step 49 = .ok (.aload_n 0, 1) := by decide +kernel
theorem dX12_step_50 : decode cX12_step 50 = .ok (.getfield 276, 3) := by decide +kernel
theorem dX12_step_53 : decode cX12_step 53 = .ok (.invokevirtual 279, 3) := by decide +kernel
theorem dX12_step_56 : decode cX12_step 56 = .ok (.invokestatic 268, 3) := by decide +kernel
theorem dX12_step_59 : decode cX12_step 59 = .ok (.ifCond .eq 7, 3) := by decide +kernel
theorem dX12_step_62 : decode cX12_step 62 = .ok (.iconst 1, 1) := by decide +kernel
theorem dX12_step_63 : decode cX12_step 63 = .ok (.goto 4, 3) := by decide +kernel
theorem dX12_step_66 : decode cX12_step 66 = .ok (.iconst 0, 1) := by decide +kernel
theorem dX12_step_67 : decode cX12_step 67 = .ok (.istore_n 2, 1) := by decide +kernel
theorem dX12_step_68 : decode cX12_step 68 = .ok (.aload_n 0, 1) := by decide +kernel
theorem dX12_step_69 : decode cX12_step 69 = .ok (.iload_n 2, 1) := by decide +kernel
theorem dX12_step_70 : decode cX12_step 70 = .ok (.ifCond .eq 8, 3) := by decide +kernel
theorem dX12_step_73 : decode cX12_step 73 = .ok (.bipush (-3), 2) := by decide +kernel
theorem dX12_step_75 : decode cX12_step 75 = .ok (.goto 4, 3) := by decide +kernel
theorem dX12_step_78 : decode cX12_step 78 = .ok (.iconst (-1), 1) := by decide +kernel
theorem dX12_step_79 : decode cX12_step 79 = .ok (.aload_n 0, 1) := by decide +kernel
theorem dX12_step_80 : decode cX12_step 80 = .ok (.getfield 276, 3) := by decide +kernel
theorem dX12_step_83 : decode cX12_step 83 = .ok (.invokevirtual 293, 3) := by decide +kernel
theorem dX12_step_86 : decode cX12_step 86 = .ok (.return_, 1) := by decide +kernel
theorem dX12_step_87 : decode cX12_step 87 = .ok (.aload_n 0, 1) := by decide +kernel
theorem dX12_step_88 : decode cX12_step 88 = .ok (.getfield 569, 3) := by decide +kernel
theorem dX12_step_91 : decode cX12_step 91 = .ok (.istore_n 2, 1) := by decide +kernel
theorem dX12_step_92 : decode cX12_step 92 = .ok (.aload_n 0, 1) := by decide +kernel
theorem dX12_step_93 : decode cX12_step 93 = .ok (.dup, 1) := by decide +kernel
theorem dX12_step_94 : decode cX12_step 94 = .ok (.getfield 569, 3) := by decide +kernel
theorem dX12_step_97 : decode cX12_step 97 = .ok (.iconst 1, 1) := by decide +kernel
theorem dX12_step_98 : decode cX12_step 98 = .ok (.iadd, 1) := by decide +kernel
theorem dX12_step_99 : decode cX12_step 99 = .ok (.putfield 569, 3) := by decide +kernel
theorem dX12_step_102 : decode cX12_step 102 = .ok (.aload_n 0, 1) := by decide +kernel
theorem dX12_step_103 : decode cX12_step 103 = .ok (.getfield 185, 3) := by decide +kernel
theorem dX12_step_106 : decode cX12_step 106 = .ok (.iload_n 2, 1) := by decide +kernel
theorem dX12_step_107 : decode cX12_step 107 = .ok (.iload_n 1, 1) := by decide +kernel
theorem dX12_step_108 : decode cX12_step 108 = .ok (.bastore, 1) := by decide +kernel
theorem dX12_step_109 : decode cX12_step 109 = .ok (.aload_n 0, 1) := by decide +kernel
theorem dX12_step_110 : decode cX12_step 110 = .ok (.getfield 194, 3) := by decide +kernel
theorem dX12_step_113 : decode cX12_step 113 = .ok (.iload_n 2, 1) := by decide +kernel
theorem dX12_step_114 : decode cX12_step 114 = .ok (.iconst 0, 1) := by decide +kernel
theorem dX12_step_115 : decode cX12_step 115 = .ok (.iastore, 1) := by decide +kernel
theorem dX12_step_116 : decode cX12_step 116 = .ok (.aload_n 0, 1) := by decide +kernel
theorem dX12_step_117 : decode cX12_step 117 = .ok (.ldc2_w 572, 3) := by decide +kernel
theorem dX12_step_120 : decode cX12_step 120 = .ok (.iconst 2, 1) := by decide +kernel
theorem dX12_step_121 : decode cX12_step 121 = .ok (.invokevirtual 285, 3) := by decide +kernel
theorem dX12_step_124 : decode cX12_step 124 = .ok (.ifCond .eq 21, 3) := by decide +kernel
theorem dX12_step_127 : decode cX12_step 127 = .ok (.aload_n 0, 1) := by decide +kernel
theorem dX12_step_128 : decode cX12_step 128 = .ok (.dup, 1) := by decide +kernel
theorem dX12_step_129 : decode cX12_step 129 = .ok (.getfield 276, 3) := by decide +kernel
theorem dX12_step_132 : decode cX12_step 132 = .ok (.iconst 2, 1) := by decide +kernel
theorem dX12_step_133 : decode cX12_step 133 = .ok (.iadd, 1) := by decide +kernel
theorem dX12_step_134 : decode cX12_step 134 = .ok (.putfield 276, 3) := by decide +kernel
theorem dX12_step_137 : decode cX12_step 137 = .ok (.aload_n 0, 1) := by decide +kernel
theorem dX12_step_138 : decode cX12_step 138 = .ok (.getfield 182, 3) := by decide +kernel
theorem dX12_step_141 : decode cX12_step 141 = .ok (.iload_n 2, 1) := by decide +kernel
theorem dX12_step_142 : decode cX12_step 142 = .ok (.iconst 1, 1) := by decide +kernel
theorem dX12_step_143 : decode cX12_step 143 = .ok (.iastore, 1) := by decide +kernel
theorem dX12_step_144 : decode cX12_step 144 = .ok (.return_, 1) := by decide +kernel
theorem dX12_step_145 : decode cX12_step 145 = .ok (.aload_n 0, 1) := by decide +kernel
theorem dX12_step_146 : decode cX12_step 146 = .ok (.aload_n 0, 1) := by decide +kernel
theorem dX12_step_147 : decode cX12_step 147 = .ok (.getfield 276, 3) := by decide +kernel
theorem dX12_step_150 : decode cX12_step 150 = .ok (.invokevirtual 279, 3) := by decide +kernel
theorem dX12_step_153 : decode cX12_step 153 = .ok (.bipush 46, 2) := by decide +kernel
theorem dX12_step_155 : decode cX12_step 155 = .ok (.if_icmp .ne 21, 3) := by decide +kernel
theorem dX12_step_158 : decode cX12_step 158 = .ok (.aload_n 0, 1) := by decide +kernel
theorem dX12_step_159 : decode cX12_step 159 = .ok (.dup, 1) := by decide +kernel
theorem dX12_step_160 : decode cX12_step 160 = .ok (.getfield 276, 3) := by decide +kernel
theorem dX12_step_163 : decode cX12_step 163 = .ok (.iconst 1, 1) := by decide +kernel
theorem dX12_step_164 : decode cX12_step 164 = .ok (.iadd, 1) := by decide +kernel
theorem dX12_step_165 : decode cX12_step 165 = .ok (.putfield 276, 3) := by decide +kernel
theorem dX12_step_168 : decode cX12_step 168 = .ok (.aload_n 0, 1) := by decide +kernel
theorem dX12_step_169 : decode cX12_step 169 = .ok (.getfield 182, 3) := by decide +kernel
theorem dX12_step_172 : decode cX12_step 172 = .ok (.iload_n 2, 1) := by decide +kernel
theorem dX12_step_173 : decode cX12_step 173 = .ok (.iconst 0, 1) := by decide +kernel
theorem dX12_step_174 : decode cX12_step 174 = .ok (.iastore, 1) := by decide +kernel
theorem dX12_step_175 : decode cX12_step 175 = .ok (.return_, 1) := by decide +kernel
theorem dX12_step_176 : decode cX12_step 176 = .ok (.aload_n 0, 1) := by decide +kernel
theorem dX12_step_177 : decode cX12_step 177 = .ok (.ldc2_w 574, 3) := by decide +kernel
theorem dX12_step_180 : decode cX12_step 180 = .ok (.bipush 6, 2) := by decide +kernel
theorem dX12_step_182 : decode cX12_step 182 = .ok (.invokevirtual 285, 3) := by decide +kernel
theorem dX12_step_185 : decode cX12_step 185 = .ok (.ifCond .eq 24, 3) := by decide +kernel
theorem dX12_step_188 : decode cX12_step 188 = .ok (.aload_n 0, 1) := by decide +kernel
theorem dX12_step_189 : decode cX12_step 189 = .ok (.dup, 1) := by decide +kernel
theorem dX12_step_190 : decode cX12_step 190 = .ok (.getfield 276, 3) := by decide +kernel
theorem dX12_step_193 : decode cX12_step 193 = .ok (.bipush 6, 2) := by decide +kernel
theorem dX12_step_195 : decode cX12_step 195 = .ok (.iadd, 1) := by decide +kernel
theorem dX12_step_196 : decode cX12_step 196 = .ok (.putfield 276, 3) := by decide +kernel
theorem dX12_step_199 : decode cX12_step 199 = .ok (.aload_n 0, 1) := by decide +kernel
theorem dX12_step_200 : decode cX12_step 200 = .ok (.getfield 182, 3) := by decide +kernel
theorem dX12_step_203 : decode cX12_step 203 = .ok (.iload_n 2, 1) := by decide +kernel
theorem dX12_step_204 : decode cX12_step 204 = .ok (.iconst 2, 1) := by decide +kernel
theorem dX12_step_205 : decode cX12_step 205 = .ok (.iastore, 1) := by decide +kernel
theorem dX12_step_206 : decode cX12_step 206 = .ok (.goto 98, 3) := by decide +kernel
theorem dX12_step_209 : decode cX12_step 209 = .ok (.aload_n 0, 1) := by decide +kernel
theorem dX12_step_210 : decode cX12_step 210 = .ok (.aload_n 0, 1) := by decide +kernel
theorem dX12_step_211 : decode cX12_step 211 = .ok (.getfield 276, 3) := by decide +kernel
theorem dX12_step_214 : decode cX12_step 214 = .ok (.invokevirtual 279, 3) := by decide +kernel
theorem dX12_step_217 : decode cX12_step 217 = .ok (.bipush 64, 2) := by decide +kernel
theorem dX12_step_219 : decode cX12_step 219 = .ok (.if_icmp .ne 7, 3) := by decide +kernel
theorem dX12_step_222 : decode cX12_step 222 = .ok (.iconst 2, 1) := by decide +kernel
theorem dX12_step_223 : decode cX12_step 223 = .ok (.goto 4, 3) := by decide +kernel
theorem dX12_step_226 : decode cX12_step 226 = .ok (.iconst 0, 1) := by decide +kernel
theorem dX12_step_227 : decode cX12_step 227 = .ok (.istore_n 3, 1) := by decide +kernel
theorem dX12_step_228 : decode cX12_step 228 = .ok (.aload_n 0, 1) := by decide +kernel
theorem dX12_step_229 : decode cX12_step 229 = .ok (.dup, 1) := by decide +kernel
theorem dX12_step_230 : decode cX12_step 230 = .ok (.getfield 276, 3) := by decide +kernel
theorem dX12_step_233 : decode cX12_step 233 = .ok (.iload_n 3, 1) := by decide +kernel
theorem dX12_step_234 : decode cX12_step 234 = .ok (.iconst 2, 1) := by decide +kernel
theorem dX12_step_235 : decode cX12_step 235 = .ok (.idiv, 1) := by decide +kernel
theorem dX12_step_236 : decode cX12_step 236 = .ok (.iadd, 1) := by decide +kernel
theorem dX12_step_237 : decode cX12_step 237 = .ok (.putfield 276, 3) := by decide +kernel
theorem dX12_step_240 : decode cX12_step 240 = .ok (.aload_n 0, 1) := by decide +kernel
theorem dX12_step_241 : decode cX12_step 241 = .ok (.aload_n 0, 1) := by decide +kernel
theorem dX12_step_242 : decode cX12_step 242 = .ok (.getfield 276, 3) := by decide +kernel
theorem dX12_step_245 : decode cX12_step 245 = .ok (.invokevirtual 279, 3) := by decide +kernel
theorem dX12_step_248 : decode cX12_step 248 = .ok (.bipush 42, 2) := by decide +kernel
theorem dX12_step_250 : decode cX12_step 250 = .ok (.if_icmp .ne 25, 3) := by decide +kernel
theorem dX12_step_253 : decode cX12_step 253 = .ok (.aload_n 0, 1) := by decide +kernel
theorem dX12_step_254 : decode cX12_step 254 = .ok (.dup, 1) := by decide +kernel
theorem dX12_step_255 : decode cX12_step 255 = .ok (.getfield 276, 3) := by decide +kernel
theorem dX12_step_258 : decode cX12_step 258 = .ok (.iconst 1, 1) := by decide +kernel
theorem dX12_step_259 : decode cX12_step 259 = .ok (.iadd, 1) := by decide +kernel
theorem dX12_step_260 : decode cX12_step 260 = .ok (.putfield 276, 3) := by decide +kernel
theorem dX12_step_263 : decode cX12_step 263 = .ok (.aload_n 0, 1) := by decide +kernel
theorem dX12_step_264 : decode cX12_step 264 = .ok (.getfield 182, 3) := by decide +kernel
theorem dX12_step_267 : decode cX12_step 267 = .ok (.iload_n 2, 1) := by decide +kernel
theorem dX12_step_268 : decode cX12_step 268 = .ok (.iconst 4, 1) := by decide +kernel
theorem dX12_step_269 : decode cX12_step 269 = .ok (.iload_n 3, 1) := by decide +kernel
theorem dX12_step_270 : decode cX12_step 270 = .ok (.iadd, 1) := by decide +kernel
theorem dX12_step_271 : decode cX12_step 271 = .ok (.iastore, 1) := by decide +kernel
theorem dX12_step_272 : decode cX12_step 272 = .ok (.goto 32, 3) := by decide +kernel
theorem dX12_step_275 : decode cX12_step 275 = .ok (.aload_n 0, 1) := by decide +kernel
theorem dX12_step_276 : decode cX12_step 276 = .ok (.getfield 188, 3) := by decide +kernel
theorem dX12_step_279 : decode cX12_step 279 = .ok (.iload_n 2, 1) := by decide +kernel
theorem dX12_step_280 : decode cX12_step 280 = .ok (.aload_n 0, 1) := by decide +kernel
theorem dX12_step_281 : decode cX12_step 281 = .ok (.invokevirtual 351, 3) := by decide +kernel
theorem dX12_step_284 : decode cX12_step 284 = .ok (.iastore, 1) := by decide +kernel
theorem dX12_step_285 : decode cX12_step 285 = .ok (.aload_n 0, 1) := by decide +kernel
theorem dX12_step_286 : decode cX12_step 286 = .ok (.getfield 191, 3) := by decide +kernel
theorem dX12_step_289 : decode cX12_step 289 = .ok (.iload_n 2, 1) := by decide +kernel
theorem dX12_step_290 : decode cX12_step 290 = .ok (.aload_n 0, 1) := by decide +kernel
theorem dX12_step_291 : decode cX12_step 291 = .ok (.getfield 306, 3) := by decide +kernel
theorem dX12_step_294 : decode cX12_step 294 = .ok (.iastore, 1) := by decide +kernel
theorem dX12_step_295 : decode cX12_step 295 = .ok (.aload_n 0, 1) := by decide +kernel
theorem dX12_step_296 : decode cX12_step 296 = .ok (.getfield 182, 3) := by decide +kernel
theorem dX12_step_299 : decode cX12_step 299 = .ok (.iload_n 2, 1) := by decide +kernel
theorem dX12_step_300 : decode cX12_step 300 = .ok (.iconst 3, 1) := by decide +kernel
theorem dX12_step_301 : decode cX12_step 301 = .ok (.iload_n 3, 1) := by decide +kernel
theorem dX12_step_302 : decode cX12_step 302 = .ok (.iadd, 1) := by decide +kernel
theorem dX12_step_303 : decode cX12_step 303 = .ok (.iastore, 1) := by decide +kernel
theorem dX12_step_304 : decode cX12_step 304 = .ok (.aload_n 0, 1) := by decide +kernel
theorem dX12_step_305 : decode cX12_step 305 = .ok (.invokevirtual 289, 3) := by decide +kernel
theorem dX12_step_308 : decode cX12_step 308 = .ok (.ifCond .eq 24, 3) := by decide +kernel
theorem dX12_step_311 : decode cX12_step 311 = .ok (.aload_n 0, 1) := by decide +kernel
theorem dX12_step_312 : decode cX12_step 312 = .ok (.aload_n 0, 1) := by decide +kernel
theorem dX12_step_313 : decode cX12_step 313 = .ok (.getfield 276, 3) := by decide +kernel
theorem dX12_step_316 : decode cX12_step 316 = .ok (.invokevirtual 279, 3) := by decide +kernel
theorem dX12_step_319 : decode cX12_step 319 = .ok (.bipush 91, 2) := by decide +kernel
theorem dX12_step_321 : decode cX12_step 321 = .ok (.if_icmp .ne 11, 3) := by decide +kernel
theorem dX12_step_324 : decode cX12_step 324 = .ok (.aload_n 0, 1) := by decide +kernel
theorem dX12_step_325 : decode cX12_step 325 = .ok (.iload_n 2, 1) := by decide +kernel
theorem dX12_step_326 : decode cX12_step 326 = .ok (.invokevirtual 576, 3) := by decide +kernel
theorem dX12_step_329 : decode cX12_step 329 = .ok (.goto (-25), 3) := by decide +kernel
theorem dX12_step_332 : decode cX12_step 332 = .ok (.return_, 1) := by decide +kernel
theorem v_X12_step_0 {cs : Cs} {Q : Option AV → Mm → Prop} {MI ML : Nat → Nat → Int} {d e nw th x : Nat} {l1 : Int}
    (h : (((MI 124 84) = 12 → wp cs mX12_octet KD (rI (GR d e nw th x) fun x14 m14 n14 => ((x14 = 46 → wp cs mX12_step KD Q 67 [some (vR 124), some (vI l1), none, none] [vI 1] (KD, m14, n14, (GR d e nw th x))) ∧ (x14 ≠ 46 → wp cs mX12_octet KD (rI (GR d e nw th x) fun x27 m27 n27 => ((x27 = 64 → wp cs mX12_step KD Q 67 [some (vR 124), some (vI l1), none, none] [vI 1] (KD, m27, n27, (GR d e nw th x))) ∧ (x27 ≠ 64 → wp cs mX12_octet KD (rI (GR d e nw th x) fun x40 m40 n40 => ((x40 = 42 → wp cs mX12_step KD Q 67 [some (vR 124), some (vI l1), none, none] [vI 1] (KD, m40, n40, (GR d e nw th x))) ∧ (x40 ≠ 42 → wp cs mX12_octet KD (rI (GR d e nw th x) fun x53 m53 n53 => wp cs mX12_isFirst KD (rI (GR d e nw th x) fun x56 m56 n56 => ((x56 = 0 → wp cs mX12_step KD Q 67 [some (vR 124), some (vI l1), none, none] [vI 0] (KD, m56, n56, (GR d e nw th x))) ∧ (x56 ≠ 0 → wp cs mX12_step KD Q 67 [some (vR 124), some (vI l1), none, none] [vI 1] (KD, m56, n56, (GR d e nw th x))))) 0 (padL [vI x53] 1) [] (KD, m53, n53, (GR d e nw th x))) 0 (padL [vR 124, vI (m40 124 4)] 2) [] (KD, m40, n40, (GR d e nw th x))))) 0 (padL [vR 124, vI (m27 124 4)] 2) [] (KD, m27, n27, (GR d e nw th x))))) 0 (padL [vR 124, vI (m14 124 4)] 2) [] (KD, m14, n14, (GR d e nw th x))))) 0 (padL [vR 124, vI (MI 124 4)] 2) [] (KD, MI, ML, (GR d e nw th x))) ∧ ((MI 124 84) ≠ 12 → (-2147483648 ≤ (MI 124 84) + 1 ∧ (MI 124 84) + 1 < 2147483648) ∧ ∀ m99, m99 = up2 MI 124 84 ((MI 124 84) + 1) → (0 ≤ (MI 124 84) ∧ (MI 124 84) < 12) ∧ (l1 = 0 ∨ l1 = 1) ∧ ∀ m108, m108 = up2 m99 181 (MI 124 84).toNat l1 → ∀ m115, m115 = up2 m108 184 (MI 124 84).toNat 0 → wp cs mX12_stands KD (rI (GR d e nw th x) fun x121 m121 n121 => ((x121 = 0 → wp cs mX12_octet KD (rI (GR d e nw th x) fun x150 m150 n150 => ((x150 = 46 → (-2147483648 ≤ (m150 124 4) + 1 ∧ (m150 124 4) + 1 < 2147483648) ∧ ∀ m165, m165 = up2 m150 124 4 ((m150 124 4) + 1) → ∀ m174, m174 = up2 m165 180 (MI 124 84).toNat 0 → Q none (m174, n150, (GR d e nw th x))) ∧ (x150 ≠ 46 → wp cs mX12_stands KD (rI (GR d e nw th x) fun x182 m182 n182 => ((x182 = 0 → wp cs mX12_octet KD (rI (GR d e nw th x) fun x214 m214 n214 => ((x214 = 64 → wp cs mX12_step KD Q 227 [some (vR 124), some (vI l1), some (vI (MI 124 84)), none] [vI 2] (KD, m214, n214, (GR d e nw th x))) ∧ (x214 ≠ 64 → wp cs mX12_step KD Q 227 [some (vR 124), some (vI l1), some (vI (MI 124 84)), none] [vI 0] (KD, m214, n214, (GR d e nw th x))))) 0 (padL [vR 124, vI (m182 124 4)] 2) [] (KD, m182, n182, (GR d e nw th x))) ∧ (x182 ≠ 0 → (-2147483648 ≤ (m182 124 4) + 6 ∧ (m182 124 4) + 6 < 2147483648) ∧ ∀ m196, m196 = up2 m182 124 4 ((m182 124 4) + 6) → ∀ m205, m205 = up2 m196 180 (MI 124 84).toNat 2 → wp cs mX12_step KD Q 304 [some (vR 124), some (vI l1), some (vI (MI 124 84)), none] [] (KD, m205, n182, (GR d e nw th x))))) 0 (padL [vR 124, vL 127979161397289, vI 6] 6) [] (KD, m150, n150, (GR d e nw th x))))) 0 (padL [vR 124, vI (m121 124 4)] 2) [] (KD, m121, n121, (GR d e nw th x))) ∧ (x121 ≠ 0 → (-2147483648 ≤ (m121 124 4) + 2 ∧ (m121 124 4) + 2 < 2147483648) ∧ ∀ m134, m134 = up2 m121 124 4 ((m121 124 4) + 2) → ∀ m143, m143 = up2 m134 180 (MI 124 84).toNat 1 → Q none (m143, n121, (GR d e nw th x))))) 0 (padL [vR 124, vL 11822, vI 2] 6) [] (KD, m115, ML, (GR d e nw th x))))) :
    wp cs mX12_step KD Q 0 (padL [vR 124, vI l1] 4) [] (KD, MI, ML, (GR d e nw th x)) := by
  refine wp_L (L' := [some (vR 124), some (vI l1), none, none]) rfl ?_
  refine wp_aload_n dX12_step_0 rfl rfl (by first | exact Or.inl (by decide) | exact Or.inl (by omega) | exact Or.inr (by decide) | exact Or.inr (by omega)) ?_
  refine wp_getI dX12_step_1 fX12_569 rfl (by decide) ?_
  refine wp_bipush dX12_step_4 (by decide +kernel) (by decide) ?_
  refine wp_icmp_ne (tgt := 87) dX12_step_6 (by decide) (fun h6 => ?_) (fun h6 => ?_)
  · replace h := h.2 h6
    refine wp_aload_n dX12_step_87 rfl rfl (by first | exact Or.inl (by decide) | exact Or.inl (by omega) | exact Or.inr (by decide) | exact Or.inr (by omega)) ?_
    refine wp_getI dX12_step_88 fX12_569 rfl (by decide) ?_
    refine wp_istore_n dX12_step_91 rfl (by decide) (wp_L (L' := [some (vR 124), some (vI l1), some (vI (MI 124 84)), none]) rfl ?_)
    refine wp_aload_n dX12_step_92 rfl rfl (by first | exact Or.inl (by decide) | exact Or.inl (by omega) | exact Or.inr (by decide) | exact Or.inr (by omega)) ?_
    refine wp_dup dX12_step_93 (fun x e => by cases e) ?_
    refine wp_getI dX12_step_94 fX12_569 rfl (by decide) ?_
    refine wp_iconst dX12_step_97 (by decide) ?_
    refine wp_pc (pc' := 98) rfl ?_
    have c0 := h.1
    replace h := h.2
    refine wp_iaddr dX12_step_98 c0 ?_
    refine wp_putI dX12_step_99 pX12_569 rfl (by decide) ?_
    refine wp_gI (fun m99 e99 => ?_)
    replace h := h m99 e99
    refine wp_aload_n dX12_step_102 rfl rfl (by first | exact Or.inl (by decide) | exact Or.inl (by omega) | exact Or.inr (by decide) | exact Or.inr (by omega)) ?_
    refine wp_getR dX12_step_103 fX12_185 rfl (by decide) ?_
    refine wp_topR (x' := 181) rfl ?_
    refine wp_iload_n dX12_step_106 rfl rfl ?_
    refine wp_iload_n dX12_step_107 rfl rfl ?_
    have c1 := h.1
    replace h := h.2
    have c2 := h.1
    replace h := h.2
    refine wp_zast dX12_step_108 rfl (by decide) c1 c2 ?_
    refine wp_gI (fun m108 e108 => ?_)
    replace h := h m108 e108
    refine wp_aload_n dX12_step_109 rfl rfl (by first | exact Or.inl (by decide) | exact Or.inl (by omega) | exact Or.inr (by decide) | exact Or.inr (by omega)) ?_
    refine wp_pc (pc' := 110) rfl ?_
    refine wp_getR dX12_step_110 fX12_194 rfl (by decide) ?_
    refine wp_topR (x' := 184) rfl ?_
    refine wp_iload_n dX12_step_113 rfl rfl ?_
    refine wp_iconst dX12_step_114 (by decide) ?_
    refine wp_iast dX12_step_115 rfl (by decide) c1 ?_
    refine wp_gI (fun m115 e115 => ?_)
    replace h := h m115 e115
    refine wp_aload_n dX12_step_116 rfl rfl (by first | exact Or.inl (by decide) | exact Or.inl (by omega) | exact Or.inr (by decide) | exact Or.inr (by omega)) ?_
    refine wp_ldc2 (x := 11822) dX12_step_117 cX12_572 (by decide) ?_
    refine wp_iconst dX12_step_120 (by decide) ?_
    refine wp_cVq (n := 2) (mt' := mX12_stands) (as := [vL 11822, vI 2]) (rest := []) _ dX12_step_121 lX12_285 kX12_stands vX12_stands (by decide) (by decide +kernel) rfl (Nat.le_of_ble_eq_true rfl) (by decide) rfl rfl rfl (Nat.le_of_ble_eq_true rfl) (fun hM hS => h) (fun r M' hq hM => ?_)
    obtain ⟨x121, m121, n121, rfl, rfl, h⟩ := rI_out hq
    refine wp_if_eq (tgt := 145) dX12_step_124 (by decide) (fun h124 => ?_) (fun h124 => ?_)
    · replace h := h.1 h124
      refine wp_aload_n dX12_step_145 rfl rfl (by first | exact Or.inl (by decide) | exact Or.inl (by omega) | exact Or.inr (by decide) | exact Or.inr (by omega)) ?_
      refine wp_aload_n dX12_step_146 rfl rfl (by first | exact Or.inl (by decide) | exact Or.inl (by omega) | exact Or.inr (by decide) | exact Or.inr (by omega)) ?_
      refine wp_getI dX12_step_147 fX12_276 rfl (by decide) ?_
      refine wp_cVq (n := 1) (mt' := mX12_octet) (as := [vI (m121 124 4)]) (rest := []) _ dX12_step_150 lX12_279 kX12_octet vX12_octet (by decide) (by decide +kernel) rfl (Nat.le_of_ble_eq_true rfl) (by decide) rfl rfl rfl (Nat.le_of_ble_eq_true rfl) (fun hM hS => h) (fun r M' hq hM => ?_)
      obtain ⟨x150, m150, n150, rfl, rfl, h⟩ := rI_out hq
      refine wp_bipush dX12_step_153 (by decide +kernel) (by decide) ?_
      refine wp_icmp_ne (tgt := 176) dX12_step_155 (by decide) (fun h155 => ?_) (fun h155 => ?_)
      · replace h := h.2 h155
        refine wp_aload_n dX12_step_176 rfl rfl (by first | exact Or.inl (by decide) | exact Or.inl (by omega) | exact Or.inr (by decide) | exact Or.inr (by omega)) ?_
        refine wp_ldc2 (x := 127979161397289) dX12_step_177 cX12_574 (by decide) ?_
        refine wp_bipush dX12_step_180 (by decide +kernel) (by decide) ?_
        refine wp_cVq (n := 2) (mt' := mX12_stands) (as := [vL 127979161397289, vI 6]) (rest := []) _ dX12_step_182 lX12_285 kX12_stands vX12_stands (by decide) (by decide +kernel) rfl (Nat.le_of_ble_eq_true rfl) (by decide) rfl rfl rfl (Nat.le_of_ble_eq_true rfl) (fun hM hS => h) (fun r M' hq hM => ?_)
        obtain ⟨x182, m182, n182, rfl, rfl, h⟩ := rI_out hq
        refine wp_if_eq (tgt := 209) dX12_step_185 (by decide) (fun h185 => ?_) (fun h185 => ?_)
        · replace h := h.1 h185
          refine wp_aload_n dX12_step_209 rfl rfl (by first | exact Or.inl (by decide) | exact Or.inl (by omega) | exact Or.inr (by decide) | exact Or.inr (by omega)) ?_
          refine wp_aload_n dX12_step_210 rfl rfl (by first | exact Or.inl (by decide) | exact Or.inl (by omega) | exact Or.inr (by decide) | exact Or.inr (by omega)) ?_
          refine wp_getI dX12_step_211 fX12_276 rfl (by decide) ?_
          refine wp_cVq (n := 1) (mt' := mX12_octet) (as := [vI (m182 124 4)]) (rest := []) _ dX12_step_214 lX12_279 kX12_octet vX12_octet (by decide) (by decide +kernel) rfl (Nat.le_of_ble_eq_true rfl) (by decide) rfl rfl rfl (Nat.le_of_ble_eq_true rfl) (fun hM hS => h) (fun r M' hq hM => ?_)
          obtain ⟨x214, m214, n214, rfl, rfl, h⟩ := rI_out hq
          refine wp_bipush dX12_step_217 (by decide +kernel) (by decide) ?_
          refine wp_icmp_ne (tgt := 226) dX12_step_219 (by decide) (fun h219 => ?_) (fun h219 => ?_)
          · replace h := h.2 h219
            refine wp_iconst dX12_step_226 (by decide) ?_
            exact h
          · replace h := h.1 h219
            refine wp_iconst dX12_step_222 (by decide) ?_
            refine wp_goto (tgt := 227) dX12_step_223 (by decide) ?_
            exact h
        · replace h := h.2 h185
          refine wp_aload_n dX12_step_188 rfl rfl (by first | exact Or.inl (by decide) | exact Or.inl (by omega) | exact Or.inr (by decide) | exact Or.inr (by omega)) ?_
          refine wp_dup dX12_step_189 (fun x e => by cases e) ?_
          refine wp_getI dX12_step_190 fX12_276 rfl (by decide) ?_
          refine wp_bipush dX12_step_193 (by decide +kernel) (by decide) ?_
          have c3 := h.1
          replace h := h.2
          refine wp_iaddr dX12_step_195 c3 ?_
          refine wp_putI dX12_step_196 pX12_276 rfl (by decide) ?_
          refine wp_gI (fun m196 e196 => ?_)
          replace h := h m196 e196
          refine wp_aload_n dX12_step_199 rfl rfl (by first | exact Or.inl (by decide) | exact Or.inl (by omega) | exact Or.inr (by decide) | exact Or.inr (by omega)) ?_
          refine wp_pc (pc' := 200) rfl ?_
          refine wp_getR dX12_step_200 fX12_182 rfl (by decide) ?_
          refine wp_topR (x' := 180) rfl ?_
          refine wp_iload_n dX12_step_203 rfl rfl ?_
          refine wp_iconst dX12_step_204 (by decide) ?_
          refine wp_iast dX12_step_205 rfl (by decide) c1 ?_
          refine wp_gI (fun m205 e205 => ?_)
          replace h := h m205 e205
          refine wp_goto (tgt := 304) dX12_step_206 (by decide) ?_
          exact h
      · replace h := h.1 h155
        refine wp_aload_n dX12_step_158 rfl rfl (by first | exact Or.inl (by decide) | exact Or.inl (by omega) | exact Or.inr (by decide) | exact Or.inr (by omega)) ?_
        refine wp_dup dX12_step_159 (fun x e => by cases e) ?_
        refine wp_getI dX12_step_160 fX12_276 rfl (by decide) ?_
        refine wp_iconst dX12_step_163 (by decide) ?_
        have c3 := h.1
        replace h := h.2
        refine wp_iaddr dX12_step_164 c3 ?_
        refine wp_putI dX12_step_165 pX12_276 rfl (by decide) ?_
        refine wp_gI (fun m165 e165 => ?_)
        replace h := h m165 e165
        refine wp_aload_n dX12_step_168 rfl rfl (by first | exact Or.inl (by decide) | exact Or.inl (by omega) | exact Or.inr (by decide) | exact Or.inr (by omega)) ?_
        refine wp_pc (pc' := 169) rfl ?_
        refine wp_getR dX12_step_169 fX12_182 rfl (by decide) ?_
        refine wp_topR (x' := 180) rfl ?_
        refine wp_iload_n dX12_step_172 rfl rfl ?_
        refine wp_iconst dX12_step_173 (by decide) ?_
        refine wp_iast dX12_step_174 rfl (by decide) c1 ?_
        refine wp_gI (fun m174 e174 => ?_)
        replace h := h m174 e174
        exact wp_vret dX12_step_175 rfl (fun _ => h)
    · replace h := h.2 h124
      refine wp_aload_n dX12_step_127 rfl rfl (by first | exact Or.inl (by decide) | exact Or.inl (by omega) | exact Or.inr (by decide) | exact Or.inr (by omega)) ?_
      refine wp_dup dX12_step_128 (fun x e => by cases e) ?_
      refine wp_getI dX12_step_129 fX12_276 rfl (by decide) ?_
      refine wp_iconst dX12_step_132 (by decide) ?_
      have c3 := h.1
      replace h := h.2
      refine wp_iaddr dX12_step_133 c3 ?_
      refine wp_putI dX12_step_134 pX12_276 rfl (by decide) ?_
      refine wp_gI (fun m134 e134 => ?_)
      replace h := h m134 e134
      refine wp_aload_n dX12_step_137 rfl rfl (by first | exact Or.inl (by decide) | exact Or.inl (by omega) | exact Or.inr (by decide) | exact Or.inr (by omega)) ?_
      refine wp_pc (pc' := 138) rfl ?_
      refine wp_getR dX12_step_138 fX12_182 rfl (by decide) ?_
      refine wp_topR (x' := 180) rfl ?_
      refine wp_iload_n dX12_step_141 rfl rfl ?_
      refine wp_iconst dX12_step_142 (by decide) ?_
      refine wp_iast dX12_step_143 rfl (by decide) c1 ?_
      refine wp_gI (fun m143 e143 => ?_)
      replace h := h m143 e143
      exact wp_vret dX12_step_144 rfl (fun _ => h)
  · replace h := h.1 h6
    refine wp_aload_n dX12_step_9 rfl rfl (by first | exact Or.inl (by decide) | exact Or.inl (by omega) | exact Or.inr (by decide) | exact Or.inr (by omega)) ?_
    refine wp_aload_n dX12_step_10 rfl rfl (by first | exact Or.inl (by decide) | exact Or.inl (by omega) | exact Or.inr (by decide) | exact Or.inr (by omega)) ?_
    refine wp_getI dX12_step_11 fX12_276 rfl (by decide) ?_
    refine wp_cVq (n := 1) (mt' := mX12_octet) (as := [vI (MI 124 4)]) (rest := []) _ dX12_step_14 lX12_279 kX12_octet vX12_octet (by decide) (by decide +kernel) rfl (Nat.le_of_ble_eq_true rfl) (by decide) rfl rfl rfl (Nat.le_of_ble_eq_true rfl) (fun hM hS => h) (fun r M' hq hM => ?_)
    obtain ⟨x14, m14, n14, rfl, rfl, h⟩ := rI_out hq
    refine wp_bipush dX12_step_17 (by decide +kernel) (by decide) ?_
    refine wp_icmp_eq (tgt := 62) dX12_step_19 (by decide) (fun h19 => ?_) (fun h19 => ?_)
    · replace h := h.1 h19
      refine wp_iconst dX12_step_62 (by decide) ?_
      refine wp_goto (tgt := 67) dX12_step_63 (by decide) ?_
      exact h
    · replace h := h.2 h19
      refine wp_aload_n dX12_step_22 rfl rfl (by first | exact Or.inl (by decide) | exact Or.inl (by omega) | exact Or.inr (by decide) | exact Or.inr (by omega)) ?_
      refine wp_aload_n dX12_step_23 rfl rfl (by first | exact Or.inl (by decide) | exact Or.inl (by omega) | exact Or.inr (by decide) | exact Or.inr (by omega)) ?_
      refine wp_getI dX12_step_24 fX12_276 rfl (by decide) ?_
      refine wp_cVq (n := 1) (mt' := mX12_octet) (as := [vI (m14 124 4)]) (rest := []) _ dX12_step_27 lX12_279 kX12_octet vX12_octet (by decide) (by decide +kernel) rfl (Nat.le_of_ble_eq_true rfl) (by decide) rfl rfl rfl (Nat.le_of_ble_eq_true rfl) (fun hM hS => h) (fun r M' hq hM => ?_)
      obtain ⟨x27, m27, n27, rfl, rfl, h⟩ := rI_out hq
      refine wp_bipush dX12_step_30 (by decide +kernel) (by decide) ?_
      refine wp_icmp_eq (tgt := 62) dX12_step_32 (by decide) (fun h32 => ?_) (fun h32 => ?_)
      · replace h := h.1 h32
        refine wp_iconst dX12_step_62 (by decide) ?_
        refine wp_goto (tgt := 67) dX12_step_63 (by decide) ?_
        exact h
      · replace h := h.2 h32
        refine wp_aload_n dX12_step_35 rfl rfl (by first | exact Or.inl (by decide) | exact Or.inl (by omega) | exact Or.inr (by decide) | exact Or.inr (by omega)) ?_
        refine wp_aload_n dX12_step_36 rfl rfl (by first | exact Or.inl (by decide) | exact Or.inl (by omega) | exact Or.inr (by decide) | exact Or.inr (by omega)) ?_
        refine wp_getI dX12_step_37 fX12_276 rfl (by decide) ?_
        refine wp_cVq (n := 1) (mt' := mX12_octet) (as := [vI (m27 124 4)]) (rest := []) _ dX12_step_40 lX12_279 kX12_octet vX12_octet (by decide) (by decide +kernel) rfl (Nat.le_of_ble_eq_true rfl) (by decide) rfl rfl rfl (Nat.le_of_ble_eq_true rfl) (fun hM hS => h) (fun r M' hq hM => ?_)
        obtain ⟨x40, m40, n40, rfl, rfl, h⟩ := rI_out hq
        refine wp_bipush dX12_step_43 (by decide +kernel) (by decide) ?_
        refine wp_icmp_eq (tgt := 62) dX12_step_45 (by decide) (fun h45 => ?_) (fun h45 => ?_)
        · replace h := h.1 h45
          refine wp_iconst dX12_step_62 (by decide) ?_
          refine wp_goto (tgt := 67) dX12_step_63 (by decide) ?_
          exact h
        · replace h := h.2 h45
          refine wp_aload_n dX12_step_48 rfl rfl (by first | exact Or.inl (by decide) | exact Or.inl (by omega) | exact Or.inr (by decide) | exact Or.inr (by omega)) ?_
          refine wp_aload_n dX12_step_49 rfl rfl (by first | exact Or.inl (by decide) | exact Or.inl (by omega) | exact Or.inr (by decide) | exact Or.inr (by omega)) ?_
          refine wp_getI dX12_step_50 fX12_276 rfl (by decide) ?_
          refine wp_cVq (n := 1) (mt' := mX12_octet) (as := [vI (m40 124 4)]) (rest := []) _ dX12_step_53 lX12_279 kX12_octet vX12_octet (by decide) (by decide +kernel) rfl (Nat.le_of_ble_eq_true rfl) (by decide) rfl rfl rfl (Nat.le_of_ble_eq_true rfl) (fun hM hS => h) (fun r M' hq hM => ?_)
          obtain ⟨x53, m53, n53, rfl, rfl, h⟩ := rI_out hq
          refine wp_cSq (n := 1) (mt' := mX12_isFirst) (as := [vI x53]) (rest := []) _ dX12_step_56 lX12_268 kX12_isFirst vX12_isFirst (by decide) (by decide +kernel) rfl (Nat.le_of_ble_eq_true rfl) rfl (Nat.le_of_ble_eq_true rfl) (fun hM hS => h) (fun r M' hq hM => ?_)
          obtain ⟨x56, m56, n56, rfl, rfl, h⟩ := rI_out hq
          refine wp_if_eq (tgt := 66) dX12_step_59 (by decide) (fun h59 => ?_) (fun h59 => ?_)
          · replace h := h.1 h59
            refine wp_iconst dX12_step_66 (by decide) ?_
            exact h
          · replace h := h.2 h59
            refine wp_iconst dX12_step_62 (by decide) ?_
            refine wp_goto (tgt := 67) dX12_step_63 (by decide) ?_
            exact h
theorem v_X12_step_67 {cs : Cs} {Q : Option AV → Mm → Prop} {MI ML : Nat → Nat → Int} {d e nw th x : Nat} {l1 s0 : Int}
    (h : ((s0 = 0 → wp cs mX12_fail KD (rV (GR d e nw th x) fun m83 n83 => Q none (m83, n83, (GR d e nw th x))) 0 (padL [vR 124, vI (-1), vI (MI 124 4)] 3) [] (KD, MI, ML, (GR d e nw th x))) ∧ (s0 ≠ 0 → wp cs mX12_fail KD (rV (GR d e nw th x) fun m83 n83 => Q none (m83, n83, (GR d e nw th x))) 0 (padL [vR 124, vI (-3), vI (MI 124 4)] 3) [] (KD, MI, ML, (GR d e nw th x))))) :
    wp cs mX12_step KD Q 67 [some (vR 124), some (vI l1), none, none] [vI s0] (KD, MI, ML, (GR d e nw th x)) := by
  refine wp_istore_n dX12_step_67 rfl (by decide) (wp_L (L' := [some (vR 124), some (vI l1), some (vI s0), none]) rfl ?_)
  refine wp_aload_n dX12_step_68 rfl rfl (by first | exact Or.inl (by decide) | exact Or.inl (by omega) | exact Or.inr (by decide) | exact Or.inr (by omega)) ?_
  refine wp_iload_n dX12_step_69 rfl rfl ?_
  refine wp_if_eq (tgt := 78) dX12_step_70 (by decide) (fun h70 => ?_) (fun h70 => ?_)
  · replace h := h.1 h70
    refine wp_iconst dX12_step_78 (by decide) ?_
    refine wp_aload_n dX12_step_79 rfl rfl (by first | exact Or.inl (by decide) | exact Or.inl (by omega) | exact Or.inr (by decide) | exact Or.inr (by omega)) ?_
    refine wp_getI dX12_step_80 fX12_276 rfl (by decide) ?_
    refine wp_cVq (n := 2) (mt' := mX12_fail) (as := [vI (-1), vI (MI 124 4)]) (rest := []) _ dX12_step_83 lX12_293 kX12_fail vX12_fail (by decide) (by decide +kernel) rfl (Nat.le_of_ble_eq_true rfl) (by decide) rfl rfl rfl (Nat.le_of_ble_eq_true rfl) (fun hM hS => h) (fun r M' hq hM => ?_)
    obtain ⟨m83, n83, rfl, rfl, h⟩ := rV_out hq
    exact wp_vret dX12_step_86 rfl (fun _ => h)
  · replace h := h.2 h70
    refine wp_bipush dX12_step_73 (by decide +kernel) (by decide) ?_
    refine wp_goto (tgt := 79) dX12_step_75 (by decide) ?_
    refine wp_aload_n dX12_step_79 rfl rfl (by first | exact Or.inl (by decide) | exact Or.inl (by omega) | exact Or.inr (by decide) | exact Or.inr (by omega)) ?_
    refine wp_getI dX12_step_80 fX12_276 rfl (by decide) ?_
    refine wp_cVq (n := 2) (mt' := mX12_fail) (as := [vI (-3), vI (MI 124 4)]) (rest := []) _ dX12_step_83 lX12_293 kX12_fail vX12_fail (by decide) (by decide +kernel) rfl (Nat.le_of_ble_eq_true rfl) (by decide) rfl rfl rfl (Nat.le_of_ble_eq_true rfl) (fun hM hS => h) (fun r M' hq hM => ?_)
    obtain ⟨m83, n83, rfl, rfl, h⟩ := rV_out hq
    exact wp_vret dX12_step_86 rfl (fun _ => h)
theorem v_X12_step_227 {cs : Cs} {Q : Option AV → Mm → Prop} {MI ML : Nat → Nat → Int} {d e nw th x : Nat} {l1 l2 s0 : Int}
    (h : (-2147483648 ≤ (MI 124 4) + (i_div s0 2) ∧ (MI 124 4) + (i_div s0 2) < 2147483648) ∧ ∀ m237, m237 = up2 MI 124 4 ((MI 124 4) + (i_div s0 2)) → wp cs mX12_octet KD (rI (GR d e nw th x) fun x245 m245 n245 => ((x245 = 42 → (-2147483648 ≤ (m245 124 4) + 1 ∧ (m245 124 4) + 1 < 2147483648) ∧ ∀ m260, m260 = up2 m245 124 4 ((m245 124 4) + 1) → (-2147483648 ≤ 4 + s0 ∧ 4 + s0 < 2147483648) ∧ (0 ≤ l2 ∧ l2 < 12) ∧ ∀ m271, m271 = up2 m260 180 l2.toNat (4 + s0) → wp cs mX12_step KD Q 304 [some (vR 124), some (vI l1), some (vI l2), none] [] (KD, m271, n245, (GR d e nw th x))) ∧ (x245 ≠ 42 → wp cs mX12_takeName KD (rI (GR d e nw th x) fun x281 m281 n281 => (0 ≤ l2 ∧ l2 < 12) ∧ ∀ m284, m284 = up2 m281 182 l2.toNat x281 → ∀ m294, m294 = up2 m284 183 l2.toNat (m284 124 51) → (-2147483648 ≤ 3 + s0 ∧ 3 + s0 < 2147483648) ∧ ∀ m303, m303 = up2 m294 180 l2.toNat (3 + s0) → wp cs mX12_step KD Q 304 [some (vR 124), some (vI l1), some (vI l2), none] [] (KD, m303, n281, (GR d e nw th x))) 0 (padL [vR 124] 2) [] (KD, m245, n245, (GR d e nw th x))))) 0 (padL [vR 124, vI (m237 124 4)] 2) [] (KD, m237, ML, (GR d e nw th x))) :
    wp cs mX12_step KD Q 227 [some (vR 124), some (vI l1), some (vI l2), none] [vI s0] (KD, MI, ML, (GR d e nw th x)) := by
  refine wp_istore_n dX12_step_227 rfl (by decide) (wp_L (L' := [some (vR 124), some (vI l1), some (vI l2), some (vI s0)]) rfl ?_)
  refine wp_aload_n dX12_step_228 rfl rfl (by first | exact Or.inl (by decide) | exact Or.inl (by omega) | exact Or.inr (by decide) | exact Or.inr (by omega)) ?_
  refine wp_dup dX12_step_229 (fun x e => by cases e) ?_
  refine wp_getI dX12_step_230 fX12_276 rfl (by decide) ?_
  refine wp_iload_n dX12_step_233 rfl rfl ?_
  refine wp_iconst dX12_step_234 (by decide) ?_
  refine wp_idiv dX12_step_235 (by decide) ?_
  refine wp_pc (pc' := 236) rfl ?_
  have c0 := h.1
  replace h := h.2
  refine wp_iaddr dX12_step_236 c0 ?_
  refine wp_putI dX12_step_237 pX12_276 rfl (by decide) ?_
  refine wp_gI (fun m237 e237 => ?_)
  replace h := h m237 e237
  refine wp_aload_n dX12_step_240 rfl rfl (by first | exact Or.inl (by decide) | exact Or.inl (by omega) | exact Or.inr (by decide) | exact Or.inr (by omega)) ?_
  refine wp_aload_n dX12_step_241 rfl rfl (by first | exact Or.inl (by decide) | exact Or.inl (by omega) | exact Or.inr (by decide) | exact Or.inr (by omega)) ?_
  refine wp_getI dX12_step_242 fX12_276 rfl (by decide) ?_
  refine wp_cVq (n := 1) (mt' := mX12_octet) (as := [vI (m237 124 4)]) (rest := []) _ dX12_step_245 lX12_279 kX12_octet vX12_octet (by decide) (by decide +kernel) rfl (Nat.le_of_ble_eq_true rfl) (by decide) rfl rfl rfl (Nat.le_of_ble_eq_true rfl) (fun hM hS => h) (fun r M' hq hM => ?_)
  obtain ⟨x245, m245, n245, rfl, rfl, h⟩ := rI_out hq
  refine wp_bipush dX12_step_248 (by decide +kernel) (by decide) ?_
  refine wp_icmp_ne (tgt := 275) dX12_step_250 (by decide) (fun h250 => ?_) (fun h250 => ?_)
  · replace h := h.2 h250
    refine wp_aload_n dX12_step_275 rfl rfl (by first | exact Or.inl (by decide) | exact Or.inl (by omega) | exact Or.inr (by decide) | exact Or.inr (by omega)) ?_
    refine wp_getR dX12_step_276 fX12_188 rfl (by decide) ?_
    refine wp_topR (x' := 182) rfl ?_
    refine wp_iload_n dX12_step_279 rfl rfl ?_
    refine wp_aload_n dX12_step_280 rfl rfl (by first | exact Or.inl (by decide) | exact Or.inl (by omega) | exact Or.inr (by decide) | exact Or.inr (by omega)) ?_
    refine wp_cVq (n := 0) (mt' := mX12_takeName) (as := []) (rest := [vI l2, vR 182]) _ dX12_step_281 lX12_351 kX12_takeName vX12_takeName (by decide) (by decide +kernel) rfl (Nat.le_of_ble_eq_true rfl) (by decide) rfl rfl rfl (Nat.le_of_ble_eq_true rfl) (fun hM hS => h) (fun r M' hq hM => ?_)
    obtain ⟨x281, m281, n281, rfl, rfl, h⟩ := rI_out hq
    have c1 := h.1
    replace h := h.2
    refine wp_iast dX12_step_284 rfl (by decide) c1 ?_
    refine wp_gI (fun m284 e284 => ?_)
    replace h := h m284 e284
    refine wp_aload_n dX12_step_285 rfl rfl (by first | exact Or.inl (by decide) | exact Or.inl (by omega) | exact Or.inr (by decide) | exact Or.inr (by omega)) ?_
    refine wp_getR dX12_step_286 fX12_191 rfl (by decide) ?_
    refine wp_topR (x' := 183) rfl ?_
    refine wp_iload_n dX12_step_289 rfl rfl ?_
    refine wp_aload_n dX12_step_290 rfl rfl (by first | exact Or.inl (by decide) | exact Or.inl (by omega) | exact Or.inr (by decide) | exact Or.inr (by omega)) ?_
    refine wp_getI dX12_step_291 fX12_306 rfl (by decide) ?_
    refine wp_iast dX12_step_294 rfl (by decide) c1 ?_
    refine wp_gI (fun m294 e294 => ?_)
    replace h := h m294 e294
    refine wp_pc (pc' := 295) rfl ?_
    refine wp_aload_n dX12_step_295 rfl rfl (by first | exact Or.inl (by decide) | exact Or.inl (by omega) | exact Or.inr (by decide) | exact Or.inr (by omega)) ?_
    refine wp_getR dX12_step_296 fX12_182 rfl (by decide) ?_
    refine wp_topR (x' := 180) rfl ?_
    refine wp_iload_n dX12_step_299 rfl rfl ?_
    refine wp_iconst dX12_step_300 (by decide) ?_
    refine wp_iload_n dX12_step_301 rfl rfl ?_
    have c2 := h.1
    replace h := h.2
    refine wp_iaddr dX12_step_302 c2 ?_
    refine wp_iast dX12_step_303 rfl (by decide) c1 ?_
    refine wp_gI (fun m303 e303 => ?_)
    replace h := h m303 e303
    refine wp_forget (L' := [some (vR 124), some (vI l1), some (vI l2), none]) (by repeat' (first | exact trivial | refine ⟨rfl, ?_⟩)) ?_
    exact h
  · replace h := h.1 h250
    refine wp_aload_n dX12_step_253 rfl rfl (by first | exact Or.inl (by decide) | exact Or.inl (by omega) | exact Or.inr (by decide) | exact Or.inr (by omega)) ?_
    refine wp_dup dX12_step_254 (fun x e => by cases e) ?_
    refine wp_getI dX12_step_255 fX12_276 rfl (by decide) ?_
    refine wp_iconst dX12_step_258 (by decide) ?_
    have c1 := h.1
    replace h := h.2
    refine wp_iaddr dX12_step_259 c1 ?_
    refine wp_putI dX12_step_260 pX12_276 rfl (by decide) ?_
    refine wp_gI (fun m260 e260 => ?_)
    replace h := h m260 e260
    refine wp_aload_n dX12_step_263 rfl rfl (by first | exact Or.inl (by decide) | exact Or.inl (by omega) | exact Or.inr (by decide) | exact Or.inr (by omega)) ?_
    refine wp_pc (pc' := 264) rfl ?_
    refine wp_getR dX12_step_264 fX12_182 rfl (by decide) ?_
    refine wp_topR (x' := 180) rfl ?_
    refine wp_iload_n dX12_step_267 rfl rfl ?_
    refine wp_iconst dX12_step_268 (by decide) ?_
    refine wp_iload_n dX12_step_269 rfl rfl ?_
    have c2 := h.1
    replace h := h.2
    refine wp_iaddr dX12_step_270 c2 ?_
    have c3 := h.1
    replace h := h.2
    refine wp_iast dX12_step_271 rfl (by decide) c3 ?_
    refine wp_gI (fun m271 e271 => ?_)
    replace h := h m271 e271
    refine wp_goto (tgt := 304) dX12_step_272 (by decide) ?_
    refine wp_forget (L' := [some (vR 124), some (vI l1), some (vI l2), none]) (by repeat' (first | exact trivial | refine ⟨rfl, ?_⟩)) ?_
    exact h
theorem v_X12_step_304 {cs : Cs} {Q : Option AV → Mm → Prop} {MI ML : Nat → Nat → Int} {d e nw th x : Nat} {l1 l2 : Int}
    (h : wp cs mX12_isGood KD (rI (GR d e nw th x) fun x305 m305 n305 => ((x305 = 0 → Q none (m305, n305, (GR d e nw th x))) ∧ (x305 ≠ 0 → wp cs mX12_octet KD (rI (GR d e nw th x) fun x316 m316 n316 => ((x316 = 91 → wp cs mX12_filter KD (rV (GR d e nw th x) fun m326 n326 => wp cs mX12_step KD Q 304 [some (vR 124), some (vI l1), some (vI l2), none] [] (KD, m326, n326, (GR d e nw th x))) 0 (padL [vR 124, vI l2] 5) [] (KD, m316, n316, (GR d e nw th x))) ∧ (x316 ≠ 91 → Q none (m316, n316, (GR d e nw th x))))) 0 (padL [vR 124, vI (m305 124 4)] 2) [] (KD, m305, n305, (GR d e nw th x))))) 0 (padL [vR 124] 1) [] (KD, MI, ML, (GR d e nw th x))) :
    wp cs mX12_step KD Q 304 [some (vR 124), some (vI l1), some (vI l2), none] [] (KD, MI, ML, (GR d e nw th x)) := by
  refine wp_aload_n dX12_step_304 rfl rfl (by first | exact Or.inl (by decide) | exact Or.inl (by omega) | exact Or.inr (by decide) | exact Or.inr (by omega)) ?_
  refine wp_cVq (n := 0) (mt' := mX12_isGood) (as := []) (rest := []) _ dX12_step_305 lX12_289 kX12_isGood vX12_isGood (by decide) (by decide +kernel) rfl (Nat.le_of_ble_eq_true rfl) (by decide) rfl rfl rfl (Nat.le_of_ble_eq_true rfl) (fun hM hS => h) (fun r M' hq hM => ?_)
  obtain ⟨x305, m305, n305, rfl, rfl, h⟩ := rI_out hq
  refine wp_if_eq (tgt := 332) dX12_step_308 (by decide) (fun h308 => ?_) (fun h308 => ?_)
  · replace h := h.1 h308
    exact wp_vret dX12_step_332 rfl (fun _ => h)
  · replace h := h.2 h308
    refine wp_aload_n dX12_step_311 rfl rfl (by first | exact Or.inl (by decide) | exact Or.inl (by omega) | exact Or.inr (by decide) | exact Or.inr (by omega)) ?_
    refine wp_aload_n dX12_step_312 rfl rfl (by first | exact Or.inl (by decide) | exact Or.inl (by omega) | exact Or.inr (by decide) | exact Or.inr (by omega)) ?_
    refine wp_getI dX12_step_313 fX12_276 rfl (by decide) ?_
    refine wp_cVq (n := 1) (mt' := mX12_octet) (as := [vI (m305 124 4)]) (rest := []) _ dX12_step_316 lX12_279 kX12_octet vX12_octet (by decide) (by decide +kernel) rfl (Nat.le_of_ble_eq_true rfl) (by decide) rfl rfl rfl (Nat.le_of_ble_eq_true rfl) (fun hM hS => h) (fun r M' hq hM => ?_)
    obtain ⟨x316, m316, n316, rfl, rfl, h⟩ := rI_out hq
    refine wp_bipush dX12_step_319 (by decide +kernel) (by decide) ?_
    refine wp_icmp_ne (tgt := 332) dX12_step_321 (by decide) (fun h321 => ?_) (fun h321 => ?_)
    · replace h := h.2 h321
      exact wp_vret dX12_step_332 rfl (fun _ => h)
    · replace h := h.1 h321
      refine wp_aload_n dX12_step_324 rfl rfl (by first | exact Or.inl (by decide) | exact Or.inl (by omega) | exact Or.inr (by decide) | exact Or.inr (by omega)) ?_
      refine wp_iload_n dX12_step_325 rfl rfl ?_
      refine wp_cVq (n := 1) (mt' := mX12_filter) (as := [vI l2]) (rest := []) _ dX12_step_326 lX12_576 kX12_filter vX12_filter (by decide) (by decide +kernel) rfl (Nat.le_of_ble_eq_true rfl) (by decide) rfl rfl rfl (Nat.le_of_ble_eq_true rfl) (fun hM hS => h) (fun r M' hq hM => ?_)
      obtain ⟨m326, n326, rfl, rfl, h⟩ := rV_out hq
      refine wp_goto (tgt := 304) dX12_step_329 (by decide) ?_
      exact h
theorem dX12_path_0 : decode cX12_path 0 = .ok (.aload_n 0, 1) := by decide +kernel
theorem dX12_path_1 : decode cX12_path 1 = .ok (.iconst 0, 1) := by decide +kernel
theorem dX12_path_2 : decode cX12_path 2 = .ok (.putfield 569, 3) := by decide +kernel
theorem dX12_path_5 : decode cX12_path 5 = .ok (.aload_n 0, 1) := by decide +kernel
theorem dX12_path_6 : decode cX12_path 6 = .ok (.aload_n 0, 1) := by decide +kernel
theorem dX12_path_7 : decode cX12_path 7 = .ok (.aload_n 0, 1) := by decide +kernel
theorem dX12_path_8 : decode cX12_path 8 = .ok (.getfield 276, 3) := by decide +kernel
theorem dX12_path_11 : decode cX12_path 11 = .ok (.invokevirtual 279, 3) := by decide +kernel
theorem dX12_path_14 : decode cX12_path 14 = .ok (.bipush 47, 2) := by decide +kernel
theorem dX12_path_16 : decode cX12_path 16 = .ok (.if_icmp .ne 7, 3) := by decide +kernel
theorem dX12_path_19 : decode cX12_path 19 = .ok (.iconst 1, 1) := by decide +kernel
theorem dX12_path_20 : decode cX12_path 20 = .ok (.goto 4, 3) := by decide +kernel
theorem dX12_path_23 : decode cX12_path 23 = .ok (.iconst 0, 1) := by decide +kernel
theorem dX12_path_24 : decode cX12_path 24 = .ok (.putfield 579, 3) := by decide +kernel
theorem dX12_path_27 : decode cX12_path 27 = .ok (.aload_n 0, 1) := by decide +kernel
theorem dX12_path_28 : decode cX12_path 28 = .ok (.ldc2_w 582, 3) := by decide +kernel
theorem dX12_path_31 : decode cX12_path 31 = .ok (.iconst 2, 1) := by decide +kernel
theorem dX12_path_32 : decode cX12_path 32 = .ok (.invokevirtual 285, 3) := by decide +kernel
theorem dX12_path_35 : decode cX12_path 35 = .ok (.istore_n 1, 1) := by decide +kernel
theorem dX12_path_36 : decode cX12_path 36 = .ok (.aload_n 0, 1) := by decide +kernel
theorem dX12_path_37 : decode cX12_path 37 = .ok (.dup, 1) := by decide +kernel
theorem dX12_path_38 : decode cX12_path 38 = .ok (.getfield 276, 3) := by decide +kernel
theorem dX12_path_41 : decode cX12_path 41 = .ok (.iload_n 1, 1) := by decide +kernel
theorem dX12_path_42 : decode cX12_path 42 = .ok (.ifCond .eq 7, 3) := by decide +kernel
theorem dX12_path_45 : decode cX12_path 45 = .ok (.iconst 2, 1) := by decide +kernel
theorem dX12_path_46 : decode cX12_path 46 = .ok (.goto 15, 3) := by decide +kernel
theorem dX12_path_49 : decode cX12_path 49 = .ok (.aload_n 0, 1) := by decide +kernel
theorem dX12_path_50 : decode cX12_path 50 = .ok (.getfield 579, 3) := by decide +kernel
theorem dX12_path_53 : decode cX12_path 53 = .ok (.ifCond .eq 7, 3) := by decide +kernel
theorem dX12_path_56 : decode cX12_path 56 = .ok (.iconst 1, 1) := by decide +kernel
theorem dX12_path_57 : decode cX12_path 57 = .ok (.goto 4, 3) := by decide +kernel
theorem dX12_path_60 : decode cX12_path 60 = .ok (.iconst 0, 1) := by decide +kernel
theorem dX12_path_61 : decode cX12_path 61 = .ok (.iadd, 1) := by decide +kernel
theorem dX12_path_62 : decode cX12_path 62 = .ok (.putfield 276, 3) := by decide +kernel
theorem dX12_path_65 : decode cX12_path 65 = .ok (.aload_n 0, 1) := by decide +kernel
theorem dX12_path_66 : decode cX12_path 66 = .ok (.getfield 579, 3) := by decide +kernel
theorem dX12_path_69 : decode cX12_path 69 = .ok (.ifCond .eq 19, 3) := by decide +kernel
theorem dX12_path_72 : decode cX12_path 72 = .ok (.iload_n 1, 1) := by decide +kernel
theorem dX12_path_73 : decode cX12_path 73 = .ok (.ifCond .ne 15, 3) := by decide +kernel
theorem dX12_path_76 : decode cX12_path 76 = .ok (.aload_n 0, 1) := by decide +kernel
theorem dX12_path_77 : decode cX12_path 77 = .ok (.getfield 276, 3) := by decide +kernel
theorem dX12_path_80 : decode cX12_path 80 = .ok (.aload_n 0, 1) := by decide +kernel
theorem dX12_path_81 : decode cX12_path 81 = .ok (.getfield 249, 3) := by decide +kernel
theorem dX12_path_84 : decode cX12_path 84 = .ok (.if_icmp .ne 4, 3) := by decide +kernel
theorem dX12_path_87 : decode cX12_path 87 = .ok (.return_, 1) := by decide +kernel
theorem dX12_path_88 : decode cX12_path 88 = .ok (.iconst 1, 1) := by decide +kernel
theorem dX12_path_89 : decode cX12_path 89 = .ok (.istore_n 2, 1) := by decide +kernel
theorem dX12_path_90 : decode cX12_path 90 = .ok (.aload_n 0, 1) := by decide +kernel
theorem dX12_path_91 : decode cX12_path 91 = .ok (.invokevirtual 289, 3) := by decide +kernel
theorem dX12_path_94 : decode cX12_path 94 = .ok (.ifCond .eq 76, 3) := by decide +kernel
theorem dX12_path_97 : decode cX12_path 97 = .ok (.iload_n 2, 1) := by decide +kernel
theorem dX12_path_98 : decode cX12_path 98 = .ok (.ifCond .eq 72, 3) := by decide +kernel
theorem dX12_path_101 : decode cX12_path 101 = .ok (.aload_n 0, 1) := by decide +kernel
theorem dX12_path_102 : decode cX12_path 102 = .ok (.iload_n 1, 1) := by decide +kernel
theorem dX12_path_103 : decode cX12_path 103 = .ok (.invokevirtual 584, 3) := by decide +kernel
theorem dX12_path_106 : decode cX12_path 106 = .ok (.aload_n 0, 1) := by decide +kernel
theorem dX12_path_107 : decode cX12_path 107 = .ok (.ldc2_w 582, 3) := by decide +kernel
theorem dX12_path_110 : decode cX12_path 110 = .ok (.iconst 2, 1) := by decide +kernel
theorem dX12_path_111 : decode cX12_path 111 = .ok (.invokevirtual 285, 3) := by decide +kernel
theorem dX12_path_114 : decode cX12_path 114 = .ok (.istore_n 1, 1) := by decide +kernel
theorem dX12_path_115 : decode cX12_path 115 = .ok (.aload_n 0, 1) := by decide +kernel
theorem dX12_path_116 : decode cX12_path 116 = .ok (.aload_n 0, 1) := by decide +kernel
theorem dX12_path_117 : decode cX12_path 117 = .ok (.getfield 276, 3) := by decide +kernel
theorem dX12_path_120 : decode cX12_path 120 = .ok (.invokevirtual 279, 3) := by decide +kernel
theorem dX12_path_123 : decode cX12_path 123 = .ok (.bipush 47, 2) := by decide +kernel
theorem dX12_path_125 : decode cX12_path 125 = .ok (.if_icmp .ne 7, 3) := by decide +kernel
theorem dX12_path_128 : decode cX12_path 128 = .ok (.iconst 1, 1) := by decide +kernel
theorem dX12_path_129 : decode cX12_path 129 = .ok (.goto 4, 3) := by decide +kernel
theorem dX12_path_132 : decode cX12_path 132 = .ok (.iconst 0, 1) := by decide +kernel
theorem dX12_path_133 : decode cX12_path 133 = .ok (.istore_n 2, 1) := by decide +kernel
theorem dX12_path_134 : decode cX12_path 134 = .ok (.aload_n 0, 1) := by decide +kernel
theorem dX12_path_135 : decode cX12_path 135 = .ok (.dup, 1) := by decide +kernel
theorem dX12_path_136 : decode cX12_path 136 = .ok (.getfield 276, 3) := by decide +kernel
theorem dX12_path_139 : decode cX12_path 139 = .ok (.aload_n 0, 1) := by decide +kernel
theorem dX12_path_140 : decode cX12_path 140 = .ok (.invokevirtual 289, 3) := by decide +kernel
theorem dX12_path_143 : decode cX12_path 143 = .ok (.ifCond .eq 7, 3) := by decide +kernel
theorem dX12_path_146 : decode cX12_path 146 = .ok (.iload_n 2, 1) := by decide +kernel
theorem dX12_path_147 : decode cX12_path 147 = .ok (.ifCond .ne 7, 3) := by decide +kernel
theorem dX12_path_150 : decode cX12_path 150 = .ok (.iconst 0, 1) := by decide +kernel
theorem dX12_path_151 : decode cX12_path 151 = .ok (.goto 12, 3) := by decide +kernel
theorem dX12_path_154 : decode cX12_path 154 = .ok (.iload_n 1, 1) := by decide +kernel
theorem dX12_path_155 : decode cX12_path 155 = .ok (.ifCond .eq 7, 3) := by decide +kernel
theorem dX12_path_158 : decode cX12_path 158 = .ok (.iconst 2, 1) := by decide +kernel
theorem dX12_path_159 : decode cX12_path 159 = .ok (.goto 4, 3) := by decide +kernel
theorem dX12_path_162 : decode cX12_path 162 = .ok (.iconst 1, 1) := by decide +kernel
theorem dX12_path_163 : decode cX12_path 163 = .ok (.iadd, 1) := by decide +kernel
theorem dX12_path_164 : decode cX12_path 164 = .ok (.putfield 276, 3) := by decide +kernel
theorem dX12_path_167 : decode cX12_path 167 = .ok (.goto (-77), 3) := by decide +kernel
theorem dX12_path_170 : decode cX12_path 170 = .ok (.aload_n 0, 1) := by decide +kernel
theorem dX12_path_171 : decode cX12_path 171 = .ok (.invokevirtual 289, 3) := by decide +kernel
theorem dX12_path_174 : decode cX12_path 174 = .ok (.ifCond .eq 23, 3) := by decide +kernel
theorem dX12_path_177 : decode cX12_path 177 = .ok (.aload_n 0, 1) := by decide +kernel
theorem dX12_path_178 : decode cX12_path 178 = .ok (.getfield 276, 3) := by decide +kernel
theorem dX12_path_181 : decode cX12_path 181 = .ok (.aload_n 0, 1) := by decide +kernel
theorem dX12_path_182 : decode cX12_path 182 = .ok (.getfield 249, 3) := by decide +kernel
theorem dX12_path_185 : decode cX12_path 185 = .ok (.if_icmp .ge 12, 3) := by decide +kernel
theorem dX12_path_188 : decode cX12_path 188 = .ok (.aload_n 0, 1) := by decide +kernel
theorem dX12_path_189 : decode cX12_path 189 = .ok (.iconst (-1), 1) := by decide +kernel
theorem dX12_path_190 : decode cX12_path 190 = .ok (.aload_n 0, 1) := by decide +kernel
theorem dX12_path_191 : decode cX12_path 191 = .ok (.getfield 276, 3) := by decide +kernel
theorem dX12_path_194 : decode cX12_path 194 = .ok (.invokevirtual 293, 3) := by decide +kernel
theorem dX12_path_197 : decode cX12_path 197 = .ok (.return_, 1) := by decide +kernel
theorem v_X12_path_0 {cs : Cs} {Q : Option AV → Mm → Prop} {MI ML : Nat → Nat → Int} {d e nw th x : Nat}
    (h : ∀ m2, m2 = up2 MI 124 84 0 → wp cs mX12_octet KD (rI (GR d e nw th x) fun x11 m11 n11 => ((x11 = 47 → wp cs mX12_path KD Q 24 [some (vR 124), none, none] [vI 1, vR 124] (KD, m11, n11, (GR d e nw th x))) ∧ (x11 ≠ 47 → wp cs mX12_path KD Q 24 [some (vR 124), none, none] [vI 0, vR 124] (KD, m11, n11, (GR d e nw th x))))) 0 (padL [vR 124, vI (m2 124 4)] 2) [] (KD, m2, ML, (GR d e nw th x))) :
    wp cs mX12_path KD Q 0 (padL [vR 124] 3) [] (KD, MI, ML, (GR d e nw th x)) := by
  refine wp_L (L' := [some (vR 124), none, none]) rfl ?_
  refine wp_aload_n dX12_path_0 rfl rfl (by first | exact Or.inl (by decide) | exact Or.inl (by omega) | exact Or.inr (by decide) | exact Or.inr (by omega)) ?_
  refine wp_iconst dX12_path_1 (by decide) ?_
  refine wp_putI dX12_path_2 pX12_569 rfl (by decide) ?_
  refine wp_gI (fun m2 e2 => ?_)
  replace h := h m2 e2
  refine wp_aload_n dX12_path_5 rfl rfl (by first | exact Or.inl (by decide) | exact Or.inl (by omega) | exact Or.inr (by decide) | exact Or.inr (by omega)) ?_
  refine wp_aload_n dX12_path_6 rfl rfl (by first | exact Or.inl (by decide) | exact Or.inl (by omega) | exact Or.inr (by decide) | exact Or.inr (by omega)) ?_
  refine wp_aload_n dX12_path_7 rfl rfl (by first | exact Or.inl (by decide) | exact Or.inl (by omega) | exact Or.inr (by decide) | exact Or.inr (by omega)) ?_
  refine wp_getI dX12_path_8 fX12_276 rfl (by decide) ?_
  refine wp_pc (pc' := 11) rfl ?_
  refine wp_cVq (n := 1) (mt' := mX12_octet) (as := [vI (m2 124 4)]) (rest := [vR 124]) _ dX12_path_11 lX12_279 kX12_octet vX12_octet (by decide) (by decide +kernel) rfl (Nat.le_of_ble_eq_true rfl) (by decide) rfl rfl rfl (Nat.le_of_ble_eq_true rfl) (fun hM hS => h) (fun r M' hq hM => ?_)
  obtain ⟨x11, m11, n11, rfl, rfl, h⟩ := rI_out hq
  refine wp_bipush dX12_path_14 (by decide +kernel) (by decide) ?_
  refine wp_icmp_ne (tgt := 23) dX12_path_16 (by decide) (fun h16 => ?_) (fun h16 => ?_)
  · replace h := h.2 h16
    refine wp_iconst dX12_path_23 (by decide) ?_
    exact h
  · replace h := h.1 h16
    refine wp_iconst dX12_path_19 (by decide) ?_
    refine wp_goto (tgt := 24) dX12_path_20 (by decide) ?_
    exact h
theorem v_X12_path_24 {cs : Cs} {Q : Option AV → Mm → Prop} {MI ML : Nat → Nat → Int} {d e nw th x : Nat} {s0 : Int}
    (h : (s0 = 0 ∨ s0 = 1) ∧ ∀ m24, m24 = up2 MI 124 85 s0 → wp cs mX12_stands KD (rI (GR d e nw th x) fun x32 m32 n32 => ((x32 = 0 → (((m32 124 85) = 0 → wp cs mX12_path KD Q 61 [some (vR 124), some (vI x32), none] [vI 0, vI (m32 124 4), vR 124] (KD, m32, n32, (GR d e nw th x))) ∧ ((m32 124 85) ≠ 0 → wp cs mX12_path KD Q 61 [some (vR 124), some (vI x32), none] [vI 1, vI (m32 124 4), vR 124] (KD, m32, n32, (GR d e nw th x))))) ∧ (x32 ≠ 0 → wp cs mX12_path KD Q 61 [some (vR 124), some (vI x32), none] [vI 2, vI (m32 124 4), vR 124] (KD, m32, n32, (GR d e nw th x))))) 0 (padL [vR 124, vL 12079, vI 2] 6) [] (KD, m24, ML, (GR d e nw th x))) :
    wp cs mX12_path KD Q 24 [some (vR 124), none, none] [vI s0, vR 124] (KD, MI, ML, (GR d e nw th x)) := by
  refine wp_putZ dX12_path_24 pX12_579 rfl (by decide) h.1 ?_
  replace h := h.2
  refine wp_gI (fun m24 e24 => ?_)
  replace h := h m24 e24
  refine wp_aload_n dX12_path_27 rfl rfl (by first | exact Or.inl (by decide) | exact Or.inl (by omega) | exact Or.inr (by decide) | exact Or.inr (by omega)) ?_
  refine wp_ldc2 (x := 12079) dX12_path_28 cX12_582 (by decide) ?_
  refine wp_iconst dX12_path_31 (by decide) ?_
  refine wp_cVq (n := 2) (mt' := mX12_stands) (as := [vL 12079, vI 2]) (rest := []) _ dX12_path_32 lX12_285 kX12_stands vX12_stands (by decide) (by decide +kernel) rfl (Nat.le_of_ble_eq_true rfl) (by decide) rfl rfl rfl (Nat.le_of_ble_eq_true rfl) (fun hM hS => h) (fun r M' hq hM => ?_)
  obtain ⟨x32, m32, n32, rfl, rfl, h⟩ := rI_out hq
  refine wp_istore_n dX12_path_35 rfl (by decide) (wp_L (L' := [some (vR 124), some (vI x32), none]) rfl ?_)
  refine wp_aload_n dX12_path_36 rfl rfl (by first | exact Or.inl (by decide) | exact Or.inl (by omega) | exact Or.inr (by decide) | exact Or.inr (by omega)) ?_
  refine wp_dup dX12_path_37 (fun x e => by cases e) ?_
  refine wp_getI dX12_path_38 fX12_276 rfl (by decide) ?_
  refine wp_iload_n dX12_path_41 rfl rfl ?_
  refine wp_if_eq (tgt := 49) dX12_path_42 (by decide) (fun h42 => ?_) (fun h42 => ?_)
  · replace h := h.1 h42
    refine wp_aload_n dX12_path_49 rfl rfl (by first | exact Or.inl (by decide) | exact Or.inl (by omega) | exact Or.inr (by decide) | exact Or.inr (by omega)) ?_
    refine wp_getI dX12_path_50 fX12_579 rfl (by decide) ?_
    refine wp_if_eq (tgt := 60) dX12_path_53 (by decide) (fun h53 => ?_) (fun h53 => ?_)
    · replace h := h.1 h53
      refine wp_iconst dX12_path_60 (by decide) ?_
      exact h
    · replace h := h.2 h53
      refine wp_iconst dX12_path_56 (by decide) ?_
      refine wp_goto (tgt := 61) dX12_path_57 (by decide) ?_
      exact h
  · replace h := h.2 h42
    refine wp_iconst dX12_path_45 (by decide) ?_
    refine wp_goto (tgt := 61) dX12_path_46 (by decide) ?_
    exact h
theorem v_X12_path_61 {cs : Cs} {Q : Option AV → Mm → Prop} {MI ML : Nat → Nat → Int} {d e nw th x : Nat} {l1 s0 s1 : Int}
    (h : (-2147483648 ≤ s1 + s0 ∧ s1 + s0 < 2147483648) ∧ ∀ m62, m62 = up2 MI 124 4 (s1 + s0) → (((m62 124 85) = 0 → wp cs mX12_path KD Q 90 [some (vR 124), some (vI l1), some (vI 1)] [] (KD, m62, ML, (GR d e nw th x))) ∧ ((m62 124 85) ≠ 0 → ((l1 = 0 → (((m62 124 4) = (m62 124 3) → Q none (m62, ML, (GR d e nw th x))) ∧ ((m62 124 4) ≠ (m62 124 3) → wp cs mX12_path KD Q 90 [some (vR 124), some (vI l1), some (vI 1)] [] (KD, m62, ML, (GR d e nw th x))))) ∧ (l1 ≠ 0 → wp cs mX12_path KD Q 90 [some (vR 124), some (vI l1), some (vI 1)] [] (KD, m62, ML, (GR d e nw th x))))))) :
    wp cs mX12_path KD Q 61 [some (vR 124), some (vI l1), none] [vI s0, vI s1, vR 124] (KD, MI, ML, (GR d e nw th x)) := by
  have c0 := h.1
  replace h := h.2
  refine wp_iaddr dX12_path_61 c0 ?_
  refine wp_putI dX12_path_62 pX12_276 rfl (by decide) ?_
  refine wp_gI (fun m62 e62 => ?_)
  replace h := h m62 e62
  refine wp_aload_n dX12_path_65 rfl rfl (by first | exact Or.inl (by decide) | exact Or.inl (by omega) | exact Or.inr (by decide) | exact Or.inr (by omega)) ?_
  refine wp_getI dX12_path_66 fX12_579 rfl (by decide) ?_
  refine wp_if_eq (tgt := 88) dX12_path_69 (by decide) (fun h69 => ?_) (fun h69 => ?_)
  · replace h := h.1 h69
    refine wp_iconst dX12_path_88 (by decide) ?_
    refine wp_istore_n dX12_path_89 rfl (by decide) (wp_L (L' := [some (vR 124), some (vI l1), some (vI 1)]) rfl ?_)
    exact h
  · replace h := h.2 h69
    refine wp_iload_n dX12_path_72 rfl rfl ?_
    refine wp_if_ne (tgt := 88) dX12_path_73 (by decide) (fun h73 => ?_) (fun h73 => ?_)
    · replace h := h.2 h73
      refine wp_iconst dX12_path_88 (by decide) ?_
      refine wp_istore_n dX12_path_89 rfl (by decide) (wp_L (L' := [some (vR 124), some (vI l1), some (vI 1)]) rfl ?_)
      exact h
    · replace h := h.1 h73
      refine wp_aload_n dX12_path_76 rfl rfl (by first | exact Or.inl (by decide) | exact Or.inl (by omega) | exact Or.inr (by decide) | exact Or.inr (by omega)) ?_
      refine wp_getI dX12_path_77 fX12_276 rfl (by decide) ?_
      refine wp_aload_n dX12_path_80 rfl rfl (by first | exact Or.inl (by decide) | exact Or.inl (by omega) | exact Or.inr (by decide) | exact Or.inr (by omega)) ?_
      refine wp_getI dX12_path_81 fX12_249 rfl (by decide) ?_
      refine wp_icmp_ne (tgt := 88) dX12_path_84 (by decide) (fun h84 => ?_) (fun h84 => ?_)
      · replace h := h.2 h84
        refine wp_iconst dX12_path_88 (by decide) ?_
        refine wp_istore_n dX12_path_89 rfl (by decide) (wp_L (L' := [some (vR 124), some (vI l1), some (vI 1)]) rfl ?_)
        exact h
      · replace h := h.1 h84
        exact wp_vret dX12_path_87 rfl (fun _ => h)
theorem v_X12_path_90 {cs : Cs} {Q : Option AV → Mm → Prop} {MI ML : Nat → Nat → Int} {d e nw th x : Nat} {l1 l2 : Int}
    (h : wp cs mX12_isGood KD (rI (GR d e nw th x) fun x91 m91 n91 => ((x91 = 0 → wp cs mX12_path KD Q 170 [some (vR 124), some (vI l1), some (vI l2)] [] (KD, m91, n91, (GR d e nw th x))) ∧ (x91 ≠ 0 → ((l2 = 0 → wp cs mX12_path KD Q 170 [some (vR 124), some (vI l1), some (vI l2)] [] (KD, m91, n91, (GR d e nw th x))) ∧ (l2 ≠ 0 → wp cs mX12_step KD (rV (GR d e nw th x) fun m103 n103 => wp cs mX12_stands KD (rI (GR d e nw th x) fun x111 m111 n111 => wp cs mX12_octet KD (rI (GR d e nw th x) fun x120 m120 n120 => ((x120 = 47 → wp cs mX12_path KD Q 133 [some (vR 124), some (vI x111), some (vI l2)] [vI 1] (KD, m120, n120, (GR d e nw th x))) ∧ (x120 ≠ 47 → wp cs mX12_path KD Q 133 [some (vR 124), some (vI x111), some (vI l2)] [vI 0] (KD, m120, n120, (GR d e nw th x))))) 0 (padL [vR 124, vI (m111 124 4)] 2) [] (KD, m111, n111, (GR d e nw th x))) 0 (padL [vR 124, vL 12079, vI 2] 6) [] (KD, m103, n103, (GR d e nw th x))) 0 (padL [vR 124, vI l1] 4) [] (KD, m91, n91, (GR d e nw th x))))))) 0 (padL [vR 124] 1) [] (KD, MI, ML, (GR d e nw th x))) :
    wp cs mX12_path KD Q 90 [some (vR 124), some (vI l1), some (vI l2)] [] (KD, MI, ML, (GR d e nw th x)) := by
  refine wp_aload_n dX12_path_90 rfl rfl (by first | exact Or.inl (by decide) | exact Or.inl (by omega) | exact Or.inr (by decide) | exact Or.inr (by omega)) ?_
  refine wp_cVq (n := 0) (mt' := mX12_isGood) (as := []) (rest := []) _ dX12_path_91 lX12_289 kX12_isGood vX12_isGood (by decide) (by decide +kernel) rfl (Nat.le_of_ble_eq_true rfl) (by decide) rfl rfl rfl (Nat.le_of_ble_eq_true rfl) (fun hM hS => h) (fun r M' hq hM => ?_)
  obtain ⟨x91, m91, n91, rfl, rfl, h⟩ := rI_out hq
  refine wp_if_eq (tgt := 170) dX12_path_94 (by decide) (fun h94 => ?_) (fun h94 => ?_)
  · replace h := h.1 h94
    exact h
  · replace h := h.2 h94
    refine wp_iload_n dX12_path_97 rfl rfl ?_
    refine wp_if_eq (tgt := 170) dX12_path_98 (by decide) (fun h98 => ?_) (fun h98 => ?_)
    · replace h := h.1 h98
      exact h
    · replace h := h.2 h98
      refine wp_aload_n dX12_path_101 rfl rfl (by first | exact Or.inl (by decide) | exact Or.inl (by omega) | exact Or.inr (by decide) | exact Or.inr (by omega)) ?_
      refine wp_iload_n dX12_path_102 rfl rfl ?_
      refine wp_cVq (n := 1) (mt' := mX12_step) (as := [vI l1]) (rest := []) _ dX12_path_103 lX12_584 kX12_step vX12_step (by decide) (by decide +kernel) rfl (Nat.le_of_ble_eq_true rfl) (by decide) rfl rfl rfl (Nat.le_of_ble_eq_true rfl) (fun hM hS => h) (fun r M' hq hM => ?_)
      obtain ⟨m103, n103, rfl, rfl, h⟩ := rV_out hq
      refine wp_aload_n dX12_path_106 rfl rfl (by first | exact Or.inl (by decide) | exact Or.inl (by omega) | exact Or.inr (by decide) | exact Or.inr (by omega)) ?_
      refine wp_ldc2 (x := 12079) dX12_path_107 cX12_582 (by decide) ?_
      refine wp_iconst dX12_path_110 (by decide) ?_
      refine wp_cVq (n := 2) (mt' := mX12_stands) (as := [vL 12079, vI 2]) (rest := []) _ dX12_path_111 lX12_285 kX12_stands vX12_stands (by decide) (by decide +kernel) rfl (Nat.le_of_ble_eq_true rfl) (by decide) rfl rfl rfl (Nat.le_of_ble_eq_true rfl) (fun hM hS => h) (fun r M' hq hM => ?_)
      obtain ⟨x111, m111, n111, rfl, rfl, h⟩ := rI_out hq
      refine wp_istore_n dX12_path_114 rfl (by decide) (wp_L (L' := [some (vR 124), some (vI x111), some (vI l2)]) rfl ?_)
      refine wp_aload_n dX12_path_115 rfl rfl (by first | exact Or.inl (by decide) | exact Or.inl (by omega) | exact Or.inr (by decide) | exact Or.inr (by omega)) ?_
      refine wp_aload_n dX12_path_116 rfl rfl (by first | exact Or.inl (by decide) | exact Or.inl (by omega) | exact Or.inr (by decide) | exact Or.inr (by omega)) ?_
      refine wp_getI dX12_path_117 fX12_276 rfl (by decide) ?_
      refine wp_cVq (n := 1) (mt' := mX12_octet) (as := [vI (m111 124 4)]) (rest := []) _ dX12_path_120 lX12_279 kX12_octet vX12_octet (by decide) (by decide +kernel) rfl (Nat.le_of_ble_eq_true rfl) (by decide) rfl rfl rfl (Nat.le_of_ble_eq_true rfl) (fun hM hS => h) (fun r M' hq hM => ?_)
      obtain ⟨x120, m120, n120, rfl, rfl, h⟩ := rI_out hq
      refine wp_bipush dX12_path_123 (by decide +kernel) (by decide) ?_
      refine wp_icmp_ne (tgt := 132) dX12_path_125 (by decide) (fun h125 => ?_) (fun h125 => ?_)
      · replace h := h.2 h125
        refine wp_iconst dX12_path_132 (by decide) ?_
        exact h
      · replace h := h.1 h125
        refine wp_iconst dX12_path_128 (by decide) ?_
        refine wp_goto (tgt := 133) dX12_path_129 (by decide) ?_
        exact h
theorem v_X12_path_133 {cs : Cs} {Q : Option AV → Mm → Prop} {MI ML : Nat → Nat → Int} {d e nw th x : Nat} {l1 l2 s0 : Int}
    (h : wp cs mX12_isGood KD (rI (GR d e nw th x) fun x140 m140 n140 => ((x140 = 0 → ∀ m164, m164 = up2 m140 124 4 (MI 124 4) → wp cs mX12_path KD Q 90 [some (vR 124), some (vI l1), some (vI s0)] [] (KD, m164, n140, (GR d e nw th x))) ∧ (x140 ≠ 0 → ((s0 = 0 → ∀ m164, m164 = up2 m140 124 4 (MI 124 4) → wp cs mX12_path KD Q 90 [some (vR 124), some (vI l1), some (vI s0)] [] (KD, m164, n140, (GR d e nw th x))) ∧ (s0 ≠ 0 → ((l1 = 0 → (-2147483648 ≤ (MI 124 4) + 1 ∧ (MI 124 4) + 1 < 2147483648) ∧ ∀ m164, m164 = up2 m140 124 4 ((MI 124 4) + 1) → wp cs mX12_path KD Q 90 [some (vR 124), some (vI l1), some (vI s0)] [] (KD, m164, n140, (GR d e nw th x))) ∧ (l1 ≠ 0 → (-2147483648 ≤ (MI 124 4) + 2 ∧ (MI 124 4) + 2 < 2147483648) ∧ ∀ m164, m164 = up2 m140 124 4 ((MI 124 4) + 2) → wp cs mX12_path KD Q 90 [some (vR 124), some (vI l1), some (vI s0)] [] (KD, m164, n140, (GR d e nw th x))))))))) 0 (padL [vR 124] 1) [] (KD, MI, ML, (GR d e nw th x))) :
    wp cs mX12_path KD Q 133 [some (vR 124), some (vI l1), some (vI l2)] [vI s0] (KD, MI, ML, (GR d e nw th x)) := by
  refine wp_istore_n dX12_path_133 rfl (by decide) (wp_L (L' := [some (vR 124), some (vI l1), some (vI s0)]) rfl ?_)
  refine wp_aload_n dX12_path_134 rfl rfl (by first | exact Or.inl (by decide) | exact Or.inl (by omega) | exact Or.inr (by decide) | exact Or.inr (by omega)) ?_
  refine wp_dup dX12_path_135 (fun x e => by cases e) ?_
  refine wp_getI dX12_path_136 fX12_276 rfl (by decide) ?_
  refine wp_aload_n dX12_path_139 rfl rfl (by first | exact Or.inl (by decide) | exact Or.inl (by omega) | exact Or.inr (by decide) | exact Or.inr (by omega)) ?_
  refine wp_cVq (n := 0) (mt' := mX12_isGood) (as := []) (rest := [vI (MI 124 4), vR 124]) _ dX12_path_140 lX12_289 kX12_isGood vX12_isGood (by decide) (by decide +kernel) rfl (Nat.le_of_ble_eq_true rfl) (by decide) rfl rfl rfl (Nat.le_of_ble_eq_true rfl) (fun hM hS => h) (fun r M' hq hM => ?_)
  obtain ⟨x140, m140, n140, rfl, rfl, h⟩ := rI_out hq
  refine wp_if_eq (tgt := 150) dX12_path_143 (by decide) (fun h143 => ?_) (fun h143 => ?_)
  · replace h := h.1 h143
    refine wp_iconst dX12_path_150 (by decide) ?_
    refine wp_goto (tgt := 163) dX12_path_151 (by decide) ?_
    refine wp_ok (fun hM hL hS => ?_)
    have hr := hS _ (List.mem_cons_of_mem _ List.mem_cons_self)
    refine wp_iaddr dX12_path_163 (by have := hr; simp only [okV] at this; omega) ?_
    refine wp_topI (x' := (MI 124 4)) (by omega) ?_
    refine wp_putI dX12_path_164 pX12_276 rfl (by decide) ?_
    refine wp_gI (fun m164 e164 => ?_)
    replace h := h m164 e164
    refine wp_goto (tgt := 90) dX12_path_167 (by decide) ?_
    exact h
  · replace h := h.2 h143
    refine wp_iload_n dX12_path_146 rfl rfl ?_
    refine wp_if_ne (tgt := 154) dX12_path_147 (by decide) (fun h147 => ?_) (fun h147 => ?_)
    · replace h := h.2 h147
      refine wp_iload_n dX12_path_154 rfl rfl ?_
      refine wp_if_eq (tgt := 162) dX12_path_155 (by decide) (fun h155 => ?_) (fun h155 => ?_)
      · replace h := h.1 h155
        refine wp_iconst dX12_path_162 (by decide) ?_
        have c0 := h.1
        replace h := h.2
        refine wp_iaddr dX12_path_163 c0 ?_
        refine wp_putI dX12_path_164 pX12_276 rfl (by decide) ?_
        refine wp_gI (fun m164 e164 => ?_)
        replace h := h m164 e164
        refine wp_goto (tgt := 90) dX12_path_167 (by decide) ?_
        exact h
      · replace h := h.2 h155
        refine wp_iconst dX12_path_158 (by decide) ?_
        refine wp_goto (tgt := 163) dX12_path_159 (by decide) ?_
        have c0 := h.1
        replace h := h.2
        refine wp_iaddr dX12_path_163 c0 ?_
        refine wp_putI dX12_path_164 pX12_276 rfl (by decide) ?_
        refine wp_gI (fun m164 e164 => ?_)
        replace h := h m164 e164
        refine wp_goto (tgt := 90) dX12_path_167 (by decide) ?_
        exact h
    · replace h := h.1 h147
      refine wp_iconst dX12_path_150 (by decide) ?_
      refine wp_goto (tgt := 163) dX12_path_151 (by decide) ?_
      refine wp_ok (fun hM hL hS => ?_)
      have hr := hS _ (List.mem_cons_of_mem _ List.mem_cons_self)
      refine wp_iaddr dX12_path_163 (by have := hr; simp only [okV] at this; omega) ?_
      refine wp_topI (x' := (MI 124 4)) (by omega) ?_
      refine wp_putI dX12_path_164 pX12_276 rfl (by decide) ?_
      refine wp_gI (fun m164 e164 => ?_)
      replace h := h m164 e164
      refine wp_goto (tgt := 90) dX12_path_167 (by decide) ?_
      exact h
theorem v_X12_path_170 {cs : Cs} {Q : Option AV → Mm → Prop} {MI ML : Nat → Nat → Int} {d e nw th x : Nat} {l1 l2 : Int}
    (h : wp cs mX12_isGood KD (rI (GR d e nw th x) fun x171 m171 n171 => ((x171 = 0 → Q none (m171, n171, (GR d e nw th x))) ∧ (x171 ≠ 0 → (((m171 124 4) < (m171 124 3) → wp cs mX12_fail KD (rV (GR d e nw th x) fun m194 n194 => Q none (m194, n194, (GR d e nw th x))) 0 (padL [vR 124, vI (-1), vI (m171 124 4)] 3) [] (KD, m171, n171, (GR d e nw th x))) ∧ ((m171 124 3) ≤ (m171 124 4) → Q none (m171, n171, (GR d e nw th x))))))) 0 (padL [vR 124] 1) [] (KD, MI, ML, (GR d e nw th x))) :
    wp cs mX12_path KD Q 170 [some (vR 124), some (vI l1), some (vI l2)] [] (KD, MI, ML, (GR d e nw th x)) := by
  refine wp_aload_n dX12_path_170 rfl rfl (by first | exact Or.inl (by decide) | exact Or.inl (by omega) | exact Or.inr (by decide) | exact Or.inr (by omega)) ?_
  refine wp_cVq (n := 0) (mt' := mX12_isGood) (as := []) (rest := []) _ dX12_path_171 lX12_289 kX12_isGood vX12_isGood (by decide) (by decide +kernel) rfl (Nat.le_of_ble_eq_true rfl) (by decide) rfl rfl rfl (Nat.le_of_ble_eq_true rfl) (fun hM hS => h) (fun r M' hq hM => ?_)
  obtain ⟨x171, m171, n171, rfl, rfl, h⟩ := rI_out hq
  refine wp_if_eq (tgt := 197) dX12_path_174 (by decide) (fun h174 => ?_) (fun h174 => ?_)
  · replace h := h.1 h174
    exact wp_vret dX12_path_197 rfl (fun _ => h)
  · replace h := h.2 h174
    refine wp_aload_n dX12_path_177 rfl rfl (by first | exact Or.inl (by decide) | exact Or.inl (by omega) | exact Or.inr (by decide) | exact Or.inr (by omega)) ?_
    refine wp_getI dX12_path_178 fX12_276 rfl (by decide) ?_
    refine wp_aload_n dX12_path_181 rfl rfl (by first | exact Or.inl (by decide) | exact Or.inl (by omega) | exact Or.inr (by decide) | exact Or.inr (by omega)) ?_
    refine wp_getI dX12_path_182 fX12_249 rfl (by decide) ?_
    refine wp_icmp_ge (tgt := 197) dX12_path_185 (by decide) (fun h185 => ?_) (fun h185 => ?_)
    · replace h := h.2 h185
      exact wp_vret dX12_path_197 rfl (fun _ => h)
    · replace h := h.1 h185
      refine wp_aload_n dX12_path_188 rfl rfl (by first | exact Or.inl (by decide) | exact Or.inl (by omega) | exact Or.inr (by decide) | exact Or.inr (by omega)) ?_
      refine wp_iconst dX12_path_189 (by decide) ?_
      refine wp_aload_n dX12_path_190 rfl rfl (by first | exact Or.inl (by decide) | exact Or.inl (by omega) | exact Or.inr (by decide) | exact Or.inr (by omega)) ?_
      refine wp_getI dX12_path_191 fX12_276 rfl (by decide) ?_
      refine wp_cVq (n := 2) (mt' := mX12_fail) (as := [vI (-1), vI (m171 124 4)]) (rest := []) _ dX12_path_194 lX12_293 kX12_fail vX12_fail (by decide) (by decide +kernel) rfl (Nat.le_of_ble_eq_true rfl) (by decide) rfl rfl rfl (Nat.le_of_ble_eq_true rfl) (fun hM hS => h) (fun r M' hq hM => ?_)
      obtain ⟨m194, n194, rfl, rfl, h⟩ := rV_out hq
      exact wp_vret dX12_path_197 rfl (fun _ => h)
theorem dX12_isCalled_0 : decode cX12_isCalled 0 = .ok (.aload_n 0, 1) := by decide +kernel
theorem dX12_isCalled_1 : decode cX12_isCalled 1 = .ok (.getfield 40, 3) := by decide +kernel
theorem dX12_isCalled_4 : decode cX12_isCalled 4 = .ok (.sipush 600, 3) := by decide +kernel
theorem dX12_isCalled_7 : decode cX12_isCalled 7 = .ok (.aload_n 0, 1) := by decide +kernel
theorem dX12_isCalled_8 : decode cX12_isCalled 8 = .ok (.getfield 482, 3) := by decide +kernel
theorem dX12_isCalled_11 : decode cX12_isCalled 11 = .ok (.imul, 1) := by decide +kernel
theorem dX12_isCalled_12 : decode cX12_isCalled 12 = .ok (.iload_n 1, 1) := by decide +kernel
theorem dX12_isCalled_13 : decode cX12_isCalled 13 = .ok (.iadd, 1) := by decide +kernel
theorem dX12_isCalled_14 : decode cX12_isCalled 14 = .ok (.iaload, 1) := by decide +kernel
theorem dX12_isCalled_15 : decode cX12_isCalled 15 = .ok (.iload_n 3, 1) := by decide +kernel
theorem dX12_isCalled_16 : decode cX12_isCalled 16 = .ok (.if_icmp .ne 7, 3) := by decide +kernel
theorem dX12_isCalled_19 : decode cX12_isCalled 19 = .ok (.iconst 1, 1) := by decide +kernel
theorem dX12_isCalled_20 : decode cX12_isCalled 20 = .ok (.goto 4, 3) := by decide +kernel
theorem dX12_isCalled_23 : decode cX12_isCalled 23 = .ok (.iconst 0, 1) := by decide +kernel
theorem dX12_isCalled_24 : decode cX12_isCalled 24 = .ok (.istore 4, 2) := by decide +kernel
theorem dX12_isCalled_26 : decode cX12_isCalled 26 = .ok (.iconst 0, 1) := by decide +kernel
theorem dX12_isCalled_27 : decode cX12_isCalled 27 = .ok (.istore 5, 2) := by decide +kernel
theorem dX12_isCalled_29 : decode cX12_isCalled 29 = .ok (.iload 5, 2) := by decide +kernel
theorem dX12_isCalled_31 : decode cX12_isCalled 31 = .ok (.iload_n 3, 1) := by decide +kernel
theorem dX12_isCalled_32 : decode cX12_isCalled 32 = .ok (.if_icmp .ge 56, 3) := by decide +kernel
theorem dX12_isCalled_35 : decode cX12_isCalled 35 = .ok (.iload 4, 2) := by decide +kernel
theorem dX12_isCalled_37 : decode cX12_isCalled 37 = .ok (.ifCond .eq 51, 3) := by decide +kernel
theorem dX12_isCalled_40 : decode cX12_isCalled 40 = .ok (.aload_n 0, 1) := by decide +kernel
theorem dX12_isCalled_41 : decode cX12_isCalled 41 = .ok (.getfield 24, 3) := by decide +kernel
theorem dX12_isCalled_44 : decode cX12_isCalled 44 = .ok (.aload_n 0, 1) := by decide +kernel
theorem dX12_isCalled_45 : decode cX12_isCalled 45 = .ok (.getfield 37, 3) := by decide +kernel
theorem dX12_isCalled_48 : decode cX12_isCalled 48 = .ok (.sipush 600, 3) := by decide +kernel
theorem dX12_isCalled_51 : decode cX12_isCalled 51 = .ok (.aload_n 0, 1) := by decide +kernel
theorem dX12_isCalled_52 : decode cX12_isCalled 52 = .ok (.getfield 482, 3) := by decide +kernel
theorem dX12_isCalled_55 : decode cX12_isCalled 55 = .ok (.imul, 1) := by decide +kernel
theorem dX12_isCalled_56 : decode cX12_isCalled 56 = .ok (.iload_n 1, 1) := by decide +kernel
theorem dX12_isCalled_57 : decode cX12_isCalled 57 = .ok (.iadd, 1) := by decide +kernel
theorem dX12_isCalled_58 : decode cX12_isCalled 58 = .ok (.iaload, 1) := by decide +kernel
theorem dX12_isCalled_59 : decode cX12_isCalled 59 = .ok (.iload 5, 2) := by decide +kernel
theorem dX12_isCalled_61 : decode cX12_isCalled 61 = .ok (.iadd, 1) := by decide +kernel
theorem dX12_isCalled_62 : decode cX12_isCalled 62 = .ok (.baload, 1) := by decide +kernel
theorem dX12_isCalled_63 : decode cX12_isCalled 63 = .ok (.aload_n 0, 1) := by decide +kernel
theorem dX12_isCalled_64 : decode cX12_isCalled 64 = .ok (.getfield 13, 3) := by decide +kernel
theorem dX12_isCalled_67 : decode cX12_isCalled 67 = .ok (.iload_n 2, 1) := by decide +kernel
theorem dX12_isCalled_68 : decode cX12_isCalled 68 = .ok (.iload 5, 2) := by decide +kernel
theorem dX12_isCalled_70 : decode cX12_isCalled 70 = .ok (.iadd, 1) := by decide +kernel
theorem dX12_isCalled_71 : decode cX12_isCalled 71 = .ok (.baload, 1) := by decide +kernel
theorem dX12_isCalled_72 : decode cX12_isCalled 72 = .ok (.if_icmp .ne 7, 3) := by decide +kernel
theorem dX12_isCalled_75 : decode cX12_isCalled 75 = .ok (.iconst 1, 1) := by decide +kernel
theorem dX12_isCalled_76 : decode cX12_isCalled 76 = .ok (.goto 4, 3) := by decide +kernel
theorem dX12_isCalled_79 : decode cX12_isCalled 79 = .ok (.iconst 0, 1) := by decide +kernel
theorem dX12_isCalled_80 : decode cX12_isCalled 80 = .ok (.istore 4, 2) := by decide +kernel
theorem dX12_isCalled_82 : decode cX12_isCalled 82 = .ok (.iinc 5 1, 3) := by decide +kernel
theorem dX12_isCalled_85 : decode cX12_isCalled 85 = .ok (.goto (-56), 3) := by decide +kernel
theorem dX12_isCalled_88 : decode cX12_isCalled 88 = .ok (.iload 4, 2) := by decide +kernel
theorem dX12_isCalled_90 : decode cX12_isCalled 90 = .ok (.ireturn, 1) := by decide +kernel
theorem v_X12_isCalled_0 {cs : Cs} {Q : Option AV → Mm → Prop} {MI ML : Nat → Nat → Int} {d e nw th x : Nat} {l1 l2 l3 : Int}
    (h : (-2147483648 ≤ 600 * (MI 124 7) ∧ 600 * (MI 124 7) < 2147483648) ∧ (-2147483648 ≤ (600 * (MI 124 7)) + l1 ∧ (600 * (MI 124 7)) + l1 < 2147483648) ∧ (0 ≤ ((600 * (MI 124 7)) + l1) ∧ ((600 * (MI 124 7)) + l1) < 1200) ∧ (((MI 133 ((600 * (MI 124 7)) + l1).toNat) = l3 → wp cs mX12_isCalled KD Q 29 [some (vR 124), some (vI l1), some (vI l2), some (vI l3), some (vI 1), some (vI 0)] [] (KD, MI, ML, (GR d e nw th x))) ∧ ((MI 133 ((600 * (MI 124 7)) + l1).toNat) ≠ l3 → wp cs mX12_isCalled KD Q 29 [some (vR 124), some (vI l1), some (vI l2), some (vI l3), some (vI 0), some (vI 0)] [] (KD, MI, ML, (GR d e nw th x))))) :
    wp cs mX12_isCalled KD Q 0 (padL [vR 124, vI l1, vI l2, vI l3] 6) [] (KD, MI, ML, (GR d e nw th x)) := by
  refine wp_L (L' := [some (vR 124), some (vI l1), some (vI l2), some (vI l3), none, none]) rfl ?_
  refine wp_aload_n dX12_isCalled_0 rfl rfl (by first | exact Or.inl (by decide) | exact Or.inl (by omega) | exact Or.inr (by decide) | exact Or.inr (by omega)) ?_
  refine wp_getR dX12_isCalled_1 fX12_40 rfl (by decide) ?_
  refine wp_topR (x' := 133) rfl ?_
  refine wp_sipush dX12_isCalled_4 (by decide +kernel) (by decide) ?_
  refine wp_aload_n dX12_isCalled_7 rfl rfl (by first | exact Or.inl (by decide) | exact Or.inl (by omega) | exact Or.inr (by decide) | exact Or.inr (by omega)) ?_
  refine wp_getI dX12_isCalled_8 fX12_482 rfl (by decide) ?_
  have c0 := h.1
  replace h := h.2
  refine wp_imulr dX12_isCalled_11 c0 ?_
  refine wp_iload_n dX12_isCalled_12 rfl rfl ?_
  refine wp_pc (pc' := 13) rfl ?_
  have c1 := h.1
  replace h := h.2
  refine wp_iaddr dX12_isCalled_13 c1 ?_
  have c2 := h.1
  replace h := h.2
  refine wp_iald dX12_isCalled_14 rfl (by decide) c2 ?_
  refine wp_iload_n dX12_isCalled_15 rfl rfl ?_
  refine wp_icmp_ne (tgt := 23) dX12_isCalled_16 (by decide) (fun h16 => ?_) (fun h16 => ?_)
  · replace h := h.2 h16
    refine wp_iconst dX12_isCalled_23 (by decide) ?_
    refine wp_istore dX12_isCalled_24 (by decide) (wp_L (L' := [some (vR 124), some (vI l1), some (vI l2), some (vI l3), some (vI 0), none]) rfl ?_)
    refine wp_iconst dX12_isCalled_26 (by decide) ?_
    refine wp_istore dX12_isCalled_27 (by decide) (wp_L (L' := [some (vR 124), some (vI l1), some (vI l2), some (vI l3), some (vI 0), some (vI 0)]) rfl ?_)
    exact h
  · replace h := h.1 h16
    refine wp_iconst dX12_isCalled_19 (by decide) ?_
    refine wp_goto (tgt := 24) dX12_isCalled_20 (by decide) ?_
    refine wp_istore dX12_isCalled_24 (by decide) (wp_L (L' := [some (vR 124), some (vI l1), some (vI l2), some (vI l3), some (vI 1), none]) rfl ?_)
    refine wp_iconst dX12_isCalled_26 (by decide) ?_
    refine wp_istore dX12_isCalled_27 (by decide) (wp_L (L' := [some (vR 124), some (vI l1), some (vI l2), some (vI l3), some (vI 1), some (vI 0)]) rfl ?_)
    exact h
theorem v_X12_isCalled_29 {cs : Cs} {Q : Option AV → Mm → Prop} {MI ML : Nat → Nat → Int} {d e nw th x : Nat} {l1 l2 l3 l4 l5 : Int}
    (h : ((l5 < l3 → ((l4 = 0 → (l4 = 0 ∨ l4 = 1) ∧ Q (some (vI l4)) (MI, ML, (GR d e nw th x))) ∧ (l4 ≠ 0 → (-2147483648 ≤ 600 * (MI 124 7) ∧ 600 * (MI 124 7) < 2147483648) ∧ (-2147483648 ≤ (600 * (MI 124 7)) + l1 ∧ (600 * (MI 124 7)) + l1 < 2147483648) ∧ (0 ≤ ((600 * (MI 124 7)) + l1) ∧ ((600 * (MI 124 7)) + l1) < 1200) ∧ (-2147483648 ≤ (MI 132 ((600 * (MI 124 7)) + l1).toNat) + l5 ∧ (MI 132 ((600 * (MI 124 7)) + l1).toNat) + l5 < 2147483648) ∧ (0 ≤ ((MI 132 ((600 * (MI 124 7)) + l1).toNat) + l5) ∧ ((MI 132 ((600 * (MI 124 7)) + l1).toNat) + l5) < 12000) ∧ (-2147483648 ≤ l2 + l5 ∧ l2 + l5 < 2147483648) ∧ (0 ≤ (l2 + l5) ∧ (l2 + l5) < 6000) ∧ (((MI 128 ((MI 132 ((600 * (MI 124 7)) + l1).toNat) + l5).toNat) = (MI 126 (l2 + l5).toNat) → (-2147483648 ≤ l5 + 1 ∧ l5 + 1 < 2147483648) ∧ wp cs mX12_isCalled KD Q 29 [some (vR 124), some (vI l1), some (vI l2), some (vI l3), some (vI 1), some (vI (l5 + 1))] [] (KD, MI, ML, (GR d e nw th x))) ∧ ((MI 128 ((MI 132 ((600 * (MI 124 7)) + l1).toNat) + l5).toNat) ≠ (MI 126 (l2 + l5).toNat) → (-2147483648 ≤ l5 + 1 ∧ l5 + 1 < 2147483648) ∧ wp cs mX12_isCalled KD Q 29 [some (vR 124), some (vI l1), some (vI l2), some (vI l3), some (vI 0), some (vI (l5 + 1))] [] (KD, MI, ML, (GR d e nw th x))))))) ∧ (l3 ≤ l5 → (l4 = 0 ∨ l4 = 1) ∧ Q (some (vI l4)) (MI, ML, (GR d e nw th x))))) :
    wp cs mX12_isCalled KD Q 29 [some (vR 124), some (vI l1), some (vI l2), some (vI l3), some (vI l4), some (vI l5)] [] (KD, MI, ML, (GR d e nw th x)) := by
  refine wp_iload dX12_isCalled_29 rfl ?_
  refine wp_iload_n dX12_isCalled_31 rfl rfl ?_
  refine wp_icmp_ge (tgt := 88) dX12_isCalled_32 (by decide) (fun h32 => ?_) (fun h32 => ?_)
  · replace h := h.2 h32
    refine wp_iload dX12_isCalled_88 rfl ?_
    exact wp_zret dX12_isCalled_90 rfl h.1 (fun _ => h.2)
  · replace h := h.1 h32
    refine wp_iload dX12_isCalled_35 rfl ?_
    refine wp_if_eq (tgt := 88) dX12_isCalled_37 (by decide) (fun h37 => ?_) (fun h37 => ?_)
    · replace h := h.1 h37
      refine wp_iload dX12_isCalled_88 rfl ?_
      exact wp_zret dX12_isCalled_90 rfl h.1 (fun _ => h.2)
    · replace h := h.2 h37
      refine wp_aload_n dX12_isCalled_40 rfl rfl (by first | exact Or.inl (by decide) | exact Or.inl (by omega) | exact Or.inr (by decide) | exact Or.inr (by omega)) ?_
      refine wp_getR dX12_isCalled_41 fX12_24 rfl (by decide) ?_
      refine wp_topR (x' := 128) rfl ?_
      refine wp_aload_n dX12_isCalled_44 rfl rfl (by first | exact Or.inl (by decide) | exact Or.inl (by omega) | exact Or.inr (by decide) | exact Or.inr (by omega)) ?_
      refine wp_getR dX12_isCalled_45 fX12_37 rfl (by decide) ?_
      refine wp_topR (x' := 132) rfl ?_
      refine wp_sipush dX12_isCalled_48 (by decide +kernel) (by decide) ?_
      refine wp_aload_n dX12_isCalled_51 rfl rfl (by first | exact Or.inl (by decide) | exact Or.inl (by omega) | exact Or.inr (by decide) | exact Or.inr (by omega)) ?_
      refine wp_getI dX12_isCalled_52 fX12_482 rfl (by decide) ?_
      refine wp_pc (pc' := 55) rfl ?_
      have c0 := h.1
      replace h := h.2
      refine wp_imulr dX12_isCalled_55 c0 ?_
      refine wp_iload_n dX12_isCalled_56 rfl rfl ?_
      have c1 := h.1
      replace h := h.2
      refine wp_iaddr dX12_isCalled_57 c1 ?_
      have c2 := h.1
      replace h := h.2
      refine wp_iald dX12_isCalled_58 rfl (by decide) c2 ?_
      refine wp_iload dX12_isCalled_59 rfl ?_
      have c3 := h.1
      replace h := h.2
      refine wp_iaddr dX12_isCalled_61 c3 ?_
      have c4 := h.1
      replace h := h.2
      refine wp_bald dX12_isCalled_62 rfl (by decide) c4 ?_
      refine wp_aload_n dX12_isCalled_63 rfl rfl (by first | exact Or.inl (by decide) | exact Or.inl (by omega) | exact Or.inr (by decide) | exact Or.inr (by omega)) ?_
      refine wp_pc (pc' := 64) rfl ?_
      refine wp_getR dX12_isCalled_64 fX12_13 rfl (by decide) ?_
      refine wp_topR (x' := 126) rfl ?_
      refine wp_iload_n dX12_isCalled_67 rfl rfl ?_
      refine wp_iload dX12_isCalled_68 rfl ?_
      have c5 := h.1
      replace h := h.2
      refine wp_iaddr dX12_isCalled_70 c5 ?_
      have c6 := h.1
      replace h := h.2
      refine wp_bald dX12_isCalled_71 rfl (by decide) c6 ?_
      refine wp_icmp_ne (tgt := 79) dX12_isCalled_72 (by decide) (fun h72 => ?_) (fun h72 => ?_)
      · replace h := h.2 h72
        refine wp_iconst dX12_isCalled_79 (by decide) ?_
        refine wp_istore dX12_isCalled_80 (by decide) (wp_L (L' := [some (vR 124), some (vI l1), some (vI l2), some (vI l3), some (vI 0), some (vI l5)]) rfl ?_)
        have c7 := h.1
        replace h := h.2
        refine wp_iincr dX12_isCalled_82 rfl (by decide) c7 (wp_L (L' := [some (vR 124), some (vI l1), some (vI l2), some (vI l3), some (vI 0), some (vI (l5 + 1))]) rfl ?_)
        refine wp_goto (tgt := 29) dX12_isCalled_85 (by decide) ?_
        exact h
      · replace h := h.1 h72
        refine wp_iconst dX12_isCalled_75 (by decide) ?_
        refine wp_goto (tgt := 80) dX12_isCalled_76 (by decide) ?_
        refine wp_istore dX12_isCalled_80 (by decide) (wp_L (L' := [some (vR 124), some (vI l1), some (vI l2), some (vI l3), some (vI 1), some (vI l5)]) rfl ?_)
        have c7 := h.1
        replace h := h.2
        refine wp_iincr dX12_isCalled_82 rfl (by decide) c7 (wp_L (L' := [some (vR 124), some (vI l1), some (vI l2), some (vI l3), some (vI 1), some (vI (l5 + 1))]) rfl ?_)
        refine wp_goto (tgt := 29) dX12_isCalled_85 (by decide) ?_
        exact h
theorem dX12_leads_0 : decode cX12_leads 0 = .ok (.aload_n 0, 1) := by decide +kernel
theorem dX12_leads_1 : decode cX12_leads 1 = .ok (.getfield 31, 3) := by decide +kernel
theorem dX12_leads_4 : decode cX12_leads 4 = .ok (.sipush 600, 3) := by decide +kernel
theorem dX12_leads_7 : decode cX12_leads 7 = .ok (.aload_n 0, 1) := by decide +kernel
theorem dX12_leads_8 : decode cX12_leads 8 = .ok (.getfield 482, 3) := by decide +kernel
theorem dX12_leads_11 : decode cX12_leads 11 = .ok (.imul, 1) := by decide +kernel
theorem dX12_leads_12 : decode cX12_leads 12 = .ok (.iload_n 3, 1) := by decide +kernel
theorem dX12_leads_13 : decode cX12_leads 13 = .ok (.iadd, 1) := by decide +kernel
theorem dX12_leads_14 : decode cX12_leads 14 = .ok (.iaload, 1) := by decide +kernel
theorem dX12_leads_15 : decode cX12_leads 15 = .ok (.istore 4, 2) := by decide +kernel
theorem dX12_leads_17 : decode cX12_leads 17 = .ok (.aload_n 0, 1) := by decide +kernel
theorem dX12_leads_18 : decode cX12_leads 18 = .ok (.getfield 34, 3) := by decide +kernel
theorem dX12_leads_21 : decode cX12_leads 21 = .ok (.sipush 600, 3) := by decide +kernel
theorem dX12_leads_24 : decode cX12_leads 24 = .ok (.aload_n 0, 1) := by decide +kernel
theorem dX12_leads_25 : decode cX12_leads 25 = .ok (.getfield 482, 3) := by decide +kernel
theorem dX12_leads_28 : decode cX12_leads 28 = .ok (.imul, 1) := by decide +kernel
theorem dX12_leads_29 : decode cX12_leads 29 = .ok (.iload_n 3, 1) := by decide +kernel
theorem dX12_leads_30 : decode cX12_leads 30 = .ok (.iadd, 1) := by decide +kernel
theorem dX12_leads_31 : decode cX12_leads 31 = .ok (.iaload, 1) := by decide +kernel
theorem dX12_leads_32 : decode cX12_leads 32 = .ok (.iload_n 2, 1) := by decide +kernel
theorem dX12_leads_33 : decode cX12_leads 33 = .ok (.if_icmp .ne 7, 3) := by decide +kernel
theorem dX12_leads_36 : decode cX12_leads 36 = .ok (.iconst 1, 1) := by decide +kernel
theorem dX12_leads_37 : decode cX12_leads 37 = .ok (.goto 4, 3) := by decide +kernel
theorem dX12_leads_40 : decode cX12_leads 40 = .ok (.iconst 0, 1) := by decide +kernel
theorem dX12_leads_41 : decode cX12_leads 41 = .ok (.istore 5, 2) := by decide +kernel
theorem dX12_leads_43 : decode cX12_leads 43 = .ok (.aload_n 0, 1) := by decide +kernel
theorem dX12_leads_44 : decode cX12_leads 44 = .ok (.getfield 182, 3) := by decide +kernel
theorem dX12_leads_47 : decode cX12_leads 47 = .ok (.iload_n 1, 1) := by decide +kernel
theorem dX12_leads_48 : decode cX12_leads 48 = .ok (.iaload, 1) := by decide +kernel
theorem dX12_leads_49 : decode cX12_leads 49 = .ok (.tableswitch 183 0 5 #[39, 50, 75, 92, 129, 146], 39) := by decide +kernel
theorem dX12_leads_88 : decode cX12_leads 88 = .ok (.iload_n 3, 1) := by decide +kernel
theorem dX12_leads_89 : decode cX12_leads 89 = .ok (.iload_n 2, 1) := by decide +kernel
theorem dX12_leads_90 : decode cX12_leads 90 = .ok (.if_icmp .ne 7, 3) := by decide +kernel
theorem dX12_leads_93 : decode cX12_leads 93 = .ok (.iconst 1, 1) := by decide +kernel
theorem dX12_leads_94 : decode cX12_leads 94 = .ok (.goto 4, 3) := by decide +kernel
theorem dX12_leads_97 : decode cX12_leads 97 = .ok (.iconst 0, 1) := by decide +kernel
theorem dX12_leads_98 : decode cX12_leads 98 = .ok (.ireturn, 1) := by decide +kernel
theorem dX12_leads_99 : decode cX12_leads 99 = .ok (.aload_n 0, 1) := by decide +kernel
theorem dX12_leads_100 : decode cX12_leads 100 = .ok (.getfield 34, 3) := by decide +kernel
theorem dX12_leads_103 : decode cX12_leads 103 = .ok (.sipush 600, 3) := by decide +kernel
theorem dX12_leads_106 : decode cX12_leads 106 = .ok (.aload_n 0, 1) := by decide +kernel
theorem dX12_leads_107 : decode cX12_leads 107 = .ok (.getfield 482, 3) := by decide +kernel
theorem dX12_leads_110 : decode cX12_leads 110 = .ok (.imul, 1) := by decide +kernel
theorem dX12_leads_111 : decode cX12_leads 111 = .ok (.iload_n 2, 1) := by decide +kernel
theorem dX12_leads_112 : decode cX12_leads 112 = .ok (.iadd, 1) := by decide +kernel
theorem dX12_leads_113 : decode cX12_leads 113 = .ok (.iaload, 1) := by decide +kernel
theorem dX12_leads_114 : decode cX12_leads 114 = .ok (.iload_n 3, 1) := by decide +kernel
theorem dX12_leads_115 : decode cX12_leads 115 = .ok (.if_icmp .ne 7, 3) := by decide +kernel
theorem dX12_leads_118 : decode cX12_leads 118 = .ok (.iconst 1, 1) := by decide +kernel
theorem dX12_leads_119 : decode cX12_leads 119 = .ok (.goto 4, 3) := by decide +kernel
theorem dX12_leads_122 : decode cX12_leads 122 = .ok (.iconst 0, 1) := by decide +kernel
theorem dX12_leads_123 : decode cX12_leads 123 = .ok (.ireturn, 1) := by decide +kernel
theorem dX12_leads_124 : decode cX12_leads 124 = .ok (.iload 5, 2) := by decide +kernel
theorem dX12_leads_126 : decode cX12_leads 126 = .ok (.ifCond .eq 13, 3) := by decide +kernel
theorem dX12_leads_129 : decode cX12_leads 129 = .ok (.iload 4, 2) := by decide +kernel
theorem dX12_leads_131 : decode cX12_leads 131 = .ok (.iconst 3, 1) := by decide +kernel
theorem dX12_leads_132 : decode cX12_leads 132 = .ok (.if_icmp .ne 7, 3) := by decide +kernel
theorem dX12_leads_135 : decode cX12_leads 135 = .ok (.iconst 1, 1) := by decide +kernel
theorem dX12_leads_136 : decode cX12_leads 136 = .ok (.goto 4, 3) := by decide +kernel
theorem dX12_leads_139 : decode cX12_leads 139 = .ok (.iconst 0, 1) := by decide +kernel
theorem dX12_leads_140 : decode cX12_leads 140 = .ok (.ireturn, 1) := by decide +kernel
theorem dX12_leads_141 : decode cX12_leads 141 = .ok (.iload 5, 2) := by decide +kernel
theorem dX12_leads_143 : decode cX12_leads 143 = .ok (.ifCond .eq 33, 3) := by decide +kernel
theorem dX12_leads_146 : decode cX12_leads 146 = .ok (.iload 4, 2) := by decide +kernel
theorem dX12_leads_148 : decode cX12_leads 148 = .ok (.iconst 1, 1) := by decide +kernel
theorem dX12_leads_149 : decode cX12_leads 149 = .ok (.if_icmp .ne 27, 3) := by decide +kernel
theorem dX12_leads_152 : decode cX12_leads 152 = .ok (.aload_n 0, 1) := by decide +kernel
theorem dX12_leads_153 : decode cX12_leads 153 = .ok (.iload_n 3, 1) := by decide +kernel
theorem dX12_leads_154 : decode cX12_leads 154 = .ok (.aload_n 0, 1) := by decide +kernel
theorem dX12_leads_155 : decode cX12_leads 155 = .ok (.getfield 188, 3) := by decide +kernel
theorem dX12_leads_158 : decode cX12_leads 158 = .ok (.iload_n 1, 1) := by decide +kernel
theorem dX12_leads_159 : decode cX12_leads 159 = .ok (.iaload, 1) := by decide +kernel
theorem dX12_leads_160 : decode cX12_leads 160 = .ok (.aload_n 0, 1) := by decide +kernel
theorem dX12_leads_161 : decode cX12_leads 161 = .ok (.getfield 191, 3) := by decide +kernel
theorem dX12_leads_164 : decode cX12_leads 164 = .ok (.iload_n 1, 1) := by decide +kernel
theorem dX12_leads_165 : decode cX12_leads 165 = .ok (.iaload, 1) := by decide +kernel
theorem dX12_leads_166 : decode cX12_leads 166 = .ok (.invokevirtual 588, 3) := by decide +kernel
theorem dX12_leads_169 : decode cX12_leads 169 = .ok (.ifCond .eq 7, 3) := by decide +kernel
theorem dX12_leads_172 : decode cX12_leads 172 = .ok (.iconst 1, 1) := by decide +kernel
theorem dX12_leads_173 : decode cX12_leads 173 = .ok (.goto 4, 3) := by decide +kernel
theorem dX12_leads_176 : decode cX12_leads 176 = .ok (.iconst 0, 1) := by decide +kernel
theorem dX12_leads_177 : decode cX12_leads 177 = .ok (.ireturn, 1) := by decide +kernel
theorem dX12_leads_178 : decode cX12_leads 178 = .ok (.iload 5, 2) := by decide +kernel
theorem dX12_leads_180 : decode cX12_leads 180 = .ok (.ifCond .eq 13, 3) := by decide +kernel
theorem dX12_leads_183 : decode cX12_leads 183 = .ok (.iload 4, 2) := by decide +kernel
theorem dX12_leads_185 : decode cX12_leads 185 = .ok (.iconst 1, 1) := by decide +kernel
theorem dX12_leads_186 : decode cX12_leads 186 = .ok (.if_icmp .ne 7, 3) := by decide +kernel
theorem dX12_leads_189 : decode cX12_leads 189 = .ok (.iconst 1, 1) := by decide +kernel
theorem dX12_leads_190 : decode cX12_leads 190 = .ok (.goto 4, 3) := by decide +kernel
theorem dX12_leads_193 : decode cX12_leads 193 = .ok (.iconst 0, 1) := by decide +kernel
theorem dX12_leads_194 : decode cX12_leads 194 = .ok (.ireturn, 1) := by decide +kernel
theorem dX12_leads_195 : decode cX12_leads 195 = .ok (.iload 5, 2) := by decide +kernel
theorem dX12_leads_197 : decode cX12_leads 197 = .ok (.ifCond .eq 33, 3) := by decide +kernel
theorem dX12_leads_200 : decode cX12_leads 200 = .ok (.iload 4, 2) := by decide +kernel
theorem dX12_leads_202 : decode cX12_leads 202 = .ok (.iconst 2, 1) := by decide +kernel
theorem dX12_leads_203 : decode cX12_leads 203 = .ok (.if_icmp .ne 27, 3) := by decide +kernel
theorem dX12_leads_206 : decode cX12_leads 206 = .ok (.aload_n 0, 1) := by decide +kernel
theorem dX12_leads_207 : decode cX12_leads 207 = .ok (.iload_n 3, 1) := by decide +kernel
theorem dX12_leads_208 : decode cX12_leads 208 = .ok (.aload_n 0, 1) := by decide +kernel
theorem dX12_leads_209 : decode cX12_leads 209 = .ok (.getfield 188, 3) := by decide +kernel
theorem dX12_leads_212 : decode cX12_leads 212 = .ok (.iload_n 1, 1) := by decide +kernel
theorem dX12_leads_213 : decode cX12_leads 213 = .ok (.iaload, 1) := by decide +kernel
theorem dX12_leads_214 : decode cX12_leads 214 = .ok (.aload_n 0, 1) := by decide +kernel
theorem dX12_leads_215 : decode cX12_leads 215 = .ok (.getfield 191, 3) := by decide +kernel
theorem dX12_leads_218 : decode cX12_leads 218 = .ok (.iload_n 1, 1) := by decide +kernel
theorem dX12_leads_219 : decode cX12_leads 219 = .ok (.iaload, 1) := by decide +kernel
theorem dX12_leads_220 : decode cX12_leads 220 = .ok (.invokevirtual 588, 3) := by decide +kernel
theorem dX12_leads_223 : decode cX12_leads 223 = .ok (.ifCond .eq 7, 3) := by decide +kernel
theorem dX12_leads_226 : decode cX12_leads 226 = .ok (.iconst 1, 1) := by decide +kernel
theorem dX12_leads_227 : decode cX12_leads 227 = .ok (.goto 4, 3) := by decide +kernel
theorem dX12_leads_230 : decode cX12_leads 230 = .ok (.iconst 0, 1) := by decide +kernel
theorem dX12_leads_231 : decode cX12_leads 231 = .ok (.ireturn, 1) := by decide +kernel
theorem dX12_leads_232 : decode cX12_leads 232 = .ok (.iload 5, 2) := by decide +kernel
theorem dX12_leads_234 : decode cX12_leads 234 = .ok (.ifCond .eq 13, 3) := by decide +kernel
theorem dX12_leads_237 : decode cX12_leads 237 = .ok (.iload 4, 2) := by decide +kernel
theorem dX12_leads_239 : decode cX12_leads 239 = .ok (.iconst 2, 1) := by decide +kernel
theorem dX12_leads_240 : decode cX12_leads 240 = .ok (.if_icmp .ne 7, 3) := by decide +kernel
theorem dX12_leads_243 : decode cX12_leads 243 = .ok (.iconst 1, 1) := by decide +kernel
theorem dX12_leads_244 : decode cX12_leads 244 = .ok (.goto 4, 3) := by decide +kernel
theorem dX12_leads_247 : decode cX12_leads 247 = .ok (.iconst 0, 1) := by decide +kernel
theorem dX12_leads_248 : decode cX12_leads 248 = .ok (.ireturn, 1) := by decide +kernel
theorem v_X12_leads_0 {cs : Cs} {Q : Option AV → Mm → Prop} {MI ML : Nat → Nat → Int} {d e nw th x : Nat} {l1 l2 l3 : Int}
    (h : (-2147483648 ≤ 600 * (MI 124 7) ∧ 600 * (MI 124 7) < 2147483648) ∧ (-2147483648 ≤ (600 * (MI 124 7)) + l3 ∧ (600 * (MI 124 7)) + l3 < 2147483648) ∧ (0 ≤ ((600 * (MI 124 7)) + l3) ∧ ((600 * (MI 124 7)) + l3) < 1200) ∧ (((MI 131 ((600 * (MI 124 7)) + l3).toNat) = l2 → wp cs mX12_leads KD Q 41 [some (vR 124), some (vI l1), some (vI l2), some (vI l3), some (vI (MI 130 ((600 * (MI 124 7)) + l3).toNat)), none] [vI 1] (KD, MI, ML, (GR d e nw th x))) ∧ ((MI 131 ((600 * (MI 124 7)) + l3).toNat) ≠ l2 → wp cs mX12_leads KD Q 41 [some (vR 124), some (vI l1), some (vI l2), some (vI l3), some (vI (MI 130 ((600 * (MI 124 7)) + l3).toNat)), none] [vI 0] (KD, MI, ML, (GR d e nw th x))))) :
    wp cs mX12_leads KD Q 0 (padL [vR 124, vI l1, vI l2, vI l3] 6) [] (KD, MI, ML, (GR d e nw th x)) := by
  refine wp_L (L' := [some (vR 124), some (vI l1), some (vI l2), some (vI l3), none, none]) rfl ?_
  refine wp_aload_n dX12_leads_0 rfl rfl (by first | exact Or.inl (by decide) | exact Or.inl (by omega) | exact Or.inr (by decide) | exact Or.inr (by omega)) ?_
  refine wp_getR dX12_leads_1 fX12_31 rfl (by decide) ?_
  refine wp_topR (x' := 130) rfl ?_
  refine wp_sipush dX12_leads_4 (by decide +kernel) (by decide) ?_
  refine wp_aload_n dX12_leads_7 rfl rfl (by first | exact Or.inl (by decide) | exact Or.inl (by omega) | exact Or.inr (by decide) | exact Or.inr (by omega)) ?_
  refine wp_getI dX12_leads_8 fX12_482 rfl (by decide) ?_
  have c0 := h.1
  replace h := h.2
  refine wp_imulr dX12_leads_11 c0 ?_
  refine wp_iload_n dX12_leads_12 rfl rfl ?_
  refine wp_pc (pc' := 13) rfl ?_
  have c1 := h.1
  replace h := h.2
  refine wp_iaddr dX12_leads_13 c1 ?_
  have c2 := h.1
  replace h := h.2
  refine wp_iald dX12_leads_14 rfl (by decide) c2 ?_
  refine wp_istore dX12_leads_15 (by decide) (wp_L (L' := [some (vR 124), some (vI l1), some (vI l2), some (vI l3), some (vI (MI 130 ((600 * (MI 124 7)) + l3).toNat)), none]) rfl ?_)
  refine wp_aload_n dX12_leads_17 rfl rfl (by first | exact Or.inl (by decide) | exact Or.inl (by omega) | exact Or.inr (by decide) | exact Or.inr (by omega)) ?_
  refine wp_getR dX12_leads_18 fX12_34 rfl (by decide) ?_
  refine wp_topR (x' := 131) rfl ?_
  refine wp_sipush dX12_leads_21 (by decide +kernel) (by decide) ?_
  refine wp_aload_n dX12_leads_24 rfl rfl (by first | exact Or.inl (by decide) | exact Or.inl (by omega) | exact Or.inr (by decide) | exact Or.inr (by omega)) ?_
  refine wp_getI dX12_leads_25 fX12_482 rfl (by decide) ?_
  refine wp_pc (pc' := 28) rfl ?_
  refine wp_imulr dX12_leads_28 c0 ?_
  refine wp_iload_n dX12_leads_29 rfl rfl ?_
  refine wp_iaddr dX12_leads_30 c1 ?_
  refine wp_iald dX12_leads_31 rfl (by decide) c2 ?_
  refine wp_iload_n dX12_leads_32 rfl rfl ?_
  refine wp_icmp_ne (tgt := 40) dX12_leads_33 (by decide) (fun h33 => ?_) (fun h33 => ?_)
  · replace h := h.2 h33
    refine wp_iconst dX12_leads_40 (by decide) ?_
    exact h
  · replace h := h.1 h33
    refine wp_iconst dX12_leads_36 (by decide) ?_
    refine wp_goto (tgt := 41) dX12_leads_37 (by decide) ?_
    exact h
theorem v_X12_leads_41 {cs : Cs} {Q : Option AV → Mm → Prop} {MI ML : Nat → Nat → Int} {d e nw th x : Nat} {l1 l2 l3 l4 s0 : Int}
    (h : (0 ≤ l1 ∧ l1 < 12) ∧ (((MI 180 l1.toNat) = 0 → ((l3 = l2 → Q (some (vI 1)) (MI, ML, (GR d e nw th x))) ∧ (l3 ≠ l2 → Q (some (vI 0)) (MI, ML, (GR d e nw th x))))) ∧ ((MI 180 l1.toNat) = 1 → (-2147483648 ≤ 600 * (MI 124 7) ∧ 600 * (MI 124 7) < 2147483648) ∧ (-2147483648 ≤ (600 * (MI 124 7)) + l2 ∧ (600 * (MI 124 7)) + l2 < 2147483648) ∧ (0 ≤ ((600 * (MI 124 7)) + l2) ∧ ((600 * (MI 124 7)) + l2) < 1200) ∧ (((MI 131 ((600 * (MI 124 7)) + l2).toNat) = l3 → Q (some (vI 1)) (MI, ML, (GR d e nw th x))) ∧ ((MI 131 ((600 * (MI 124 7)) + l2).toNat) ≠ l3 → Q (some (vI 0)) (MI, ML, (GR d e nw th x))))) ∧ ((MI 180 l1.toNat) = 2 → ((s0 = 0 → Q (some (vI 0)) (MI, ML, (GR d e nw th x))) ∧ (s0 ≠ 0 → ((l4 = 3 → Q (some (vI 1)) (MI, ML, (GR d e nw th x))) ∧ (l4 ≠ 3 → Q (some (vI 0)) (MI, ML, (GR d e nw th x))))))) ∧ ((MI 180 l1.toNat) = 3 → ((s0 = 0 → Q (some (vI 0)) (MI, ML, (GR d e nw th x))) ∧ (s0 ≠ 0 → ((l4 = 1 → wp cs mX12_isCalled KD (rI (GR d e nw th x) fun x166 m166 n166 => ((x166 = 0 → Q (some (vI 0)) (m166, n166, (GR d e nw th x))) ∧ (x166 ≠ 0 → Q (some (vI 1)) (m166, n166, (GR d e nw th x))))) 0 (padL [vR 124, vI l3, vI (MI 182 l1.toNat), vI (MI 183 l1.toNat)] 6) [] (KD, MI, ML, (GR d e nw th x))) ∧ (l4 ≠ 1 → Q (some (vI 0)) (MI, ML, (GR d e nw th x))))))) ∧ ((MI 180 l1.toNat) = 4 → ((s0 = 0 → Q (some (vI 0)) (MI, ML, (GR d e nw th x))) ∧ (s0 ≠ 0 → ((l4 = 1 → Q (some (vI 1)) (MI, ML, (GR d e nw th x))) ∧ (l4 ≠ 1 → Q (some (vI 0)) (MI, ML, (GR d e nw th x))))))) ∧ ((MI 180 l1.toNat) = 5 → ((s0 = 0 → Q (some (vI 0)) (MI, ML, (GR d e nw th x))) ∧ (s0 ≠ 0 → ((l4 = 2 → wp cs mX12_isCalled KD (rI (GR d e nw th x) fun x220 m220 n220 => ((x220 = 0 → Q (some (vI 0)) (m220, n220, (GR d e nw th x))) ∧ (x220 ≠ 0 → Q (some (vI 1)) (m220, n220, (GR d e nw th x))))) 0 (padL [vR 124, vI l3, vI (MI 182 l1.toNat), vI (MI 183 l1.toNat)] 6) [] (KD, MI, ML, (GR d e nw th x))) ∧ (l4 ≠ 2 → Q (some (vI 0)) (MI, ML, (GR d e nw th x))))))) ∧ ((MI 180 l1.toNat) < 0 ∨ 5 < (MI 180 l1.toNat) → ((s0 = 0 → Q (some (vI 0)) (MI, ML, (GR d e nw th x))) ∧ (s0 ≠ 0 → ((l4 = 2 → Q (some (vI 1)) (MI, ML, (GR d e nw th x))) ∧ (l4 ≠ 2 → Q (some (vI 0)) (MI, ML, (GR d e nw th x))))))))) :
    wp cs mX12_leads KD Q 41 [some (vR 124), some (vI l1), some (vI l2), some (vI l3), some (vI l4), none] [vI s0] (KD, MI, ML, (GR d e nw th x)) := by
  refine wp_istore dX12_leads_41 (by decide) (wp_L (L' := [some (vR 124), some (vI l1), some (vI l2), some (vI l3), some (vI l4), some (vI s0)]) rfl ?_)
  refine wp_aload_n dX12_leads_43 rfl rfl (by first | exact Or.inl (by decide) | exact Or.inl (by omega) | exact Or.inr (by decide) | exact Or.inr (by omega)) ?_
  refine wp_getR dX12_leads_44 fX12_182 rfl (by decide) ?_
  refine wp_topR (x' := 180) rfl ?_
  refine wp_iload_n dX12_leads_47 rfl rfl ?_
  have c0 := h.1
  replace h := h.2
  refine wp_iald dX12_leads_48 rfl (by decide) c0 ?_
  by_cases hsw : 0 ≤ (MI 180 l1.toNat) ∧ (MI 180 l1.toNat) ≤ 5
  · rcases (by omega : (MI 180 l1.toNat) = 0 ∨ (MI 180 l1.toNat) = 1 ∨ (MI 180 l1.toNat) = 2 ∨ (MI 180 l1.toNat) = 3 ∨ (MI 180 l1.toNat) = 4 ∨ (MI 180 l1.toNat) = 5) with q | q | q | q | q | q
    · refine wp_topI (x' := 0) q ?_
      refine wp_tableIn (tgt := 88) dX12_leads_49 (by decide) rfl (by decide) ?_
      replace h := h.1 q
      refine wp_iload_n dX12_leads_88 rfl rfl ?_
      refine wp_iload_n dX12_leads_89 rfl rfl ?_
      refine wp_icmp_ne (tgt := 97) dX12_leads_90 (by decide) (fun h90 => ?_) (fun h90 => ?_)
      · replace h := h.2 h90
        refine wp_iconst dX12_leads_97 (by decide) ?_
        exact wp_zret dX12_leads_98 rfl (by decide) (fun _ => h)
      · replace h := h.1 h90
        refine wp_iconst dX12_leads_93 (by decide) ?_
        refine wp_goto (tgt := 98) dX12_leads_94 (by decide) ?_
        exact wp_zret dX12_leads_98 rfl (by decide) (fun _ => h)
    · refine wp_topI (x' := 1) q ?_
      refine wp_tableIn (tgt := 99) dX12_leads_49 (by decide) rfl (by decide) ?_
      replace h := h.2.1 q
      refine wp_aload_n dX12_leads_99 rfl rfl (by first | exact Or.inl (by decide) | exact Or.inl (by omega) | exact Or.inr (by decide) | exact Or.inr (by omega)) ?_
      refine wp_getR dX12_leads_100 fX12_34 rfl (by decide) ?_
      refine wp_topR (x' := 131) rfl ?_
      refine wp_sipush dX12_leads_103 (by decide +kernel) (by decide) ?_
      refine wp_aload_n dX12_leads_106 rfl rfl (by first | exact Or.inl (by decide) | exact Or.inl (by omega) | exact Or.inr (by decide) | exact Or.inr (by omega)) ?_
      refine wp_getI dX12_leads_107 fX12_482 rfl (by decide) ?_
      have c1 := h.1
      replace h := h.2
      refine wp_imulr dX12_leads_110 c1 ?_
      refine wp_iload_n dX12_leads_111 rfl rfl ?_
      refine wp_pc (pc' := 112) rfl ?_
      have c2 := h.1
      replace h := h.2
      refine wp_iaddr dX12_leads_112 c2 ?_
      have c3 := h.1
      replace h := h.2
      refine wp_iald dX12_leads_113 rfl (by decide) c3 ?_
      refine wp_iload_n dX12_leads_114 rfl rfl ?_
      refine wp_icmp_ne (tgt := 122) dX12_leads_115 (by decide) (fun h115 => ?_) (fun h115 => ?_)
      · replace h := h.2 h115
        refine wp_iconst dX12_leads_122 (by decide) ?_
        exact wp_zret dX12_leads_123 rfl (by decide) (fun _ => h)
      · replace h := h.1 h115
        refine wp_iconst dX12_leads_118 (by decide) ?_
        refine wp_goto (tgt := 123) dX12_leads_119 (by decide) ?_
        exact wp_zret dX12_leads_123 rfl (by decide) (fun _ => h)
    · refine wp_topI (x' := 2) q ?_
      refine wp_tableIn (tgt := 124) dX12_leads_49 (by decide) rfl (by decide) ?_
      replace h := h.2.2.1 q
      refine wp_iload dX12_leads_124 rfl ?_
      refine wp_if_eq (tgt := 139) dX12_leads_126 (by decide) (fun h126 => ?_) (fun h126 => ?_)
      · replace h := h.1 h126
        refine wp_iconst dX12_leads_139 (by decide) ?_
        exact wp_zret dX12_leads_140 rfl (by decide) (fun _ => h)
      · replace h := h.2 h126
        refine wp_iload dX12_leads_129 rfl ?_
        refine wp_iconst dX12_leads_131 (by decide) ?_
        refine wp_icmp_ne (tgt := 139) dX12_leads_132 (by decide) (fun h132 => ?_) (fun h132 => ?_)
        · replace h := h.2 h132
          refine wp_iconst dX12_leads_139 (by decide) ?_
          exact wp_zret dX12_leads_140 rfl (by decide) (fun _ => h)
        · replace h := h.1 h132
          refine wp_iconst dX12_leads_135 (by decide) ?_
          refine wp_goto (tgt := 140) dX12_leads_136 (by decide) ?_
          exact wp_zret dX12_leads_140 rfl (by decide) (fun _ => h)
    · refine wp_topI (x' := 3) q ?_
      refine wp_tableIn (tgt := 141) dX12_leads_49 (by decide) rfl (by decide) ?_
      replace h := h.2.2.2.1 q
      refine wp_iload dX12_leads_141 rfl ?_
      refine wp_if_eq (tgt := 176) dX12_leads_143 (by decide) (fun h143 => ?_) (fun h143 => ?_)
      · replace h := h.1 h143
        refine wp_iconst dX12_leads_176 (by decide) ?_
        exact wp_zret dX12_leads_177 rfl (by decide) (fun _ => h)
      · replace h := h.2 h143
        refine wp_iload dX12_leads_146 rfl ?_
        refine wp_iconst dX12_leads_148 (by decide) ?_
        refine wp_icmp_ne (tgt := 176) dX12_leads_149 (by decide) (fun h149 => ?_) (fun h149 => ?_)
        · replace h := h.2 h149
          refine wp_iconst dX12_leads_176 (by decide) ?_
          exact wp_zret dX12_leads_177 rfl (by decide) (fun _ => h)
        · replace h := h.1 h149
          refine wp_aload_n dX12_leads_152 rfl rfl (by first | exact Or.inl (by decide) | exact Or.inl (by omega) | exact Or.inr (by decide) | exact Or.inr (by omega)) ?_
          refine wp_iload_n dX12_leads_153 rfl rfl ?_
          refine wp_aload_n dX12_leads_154 rfl rfl (by first | exact Or.inl (by decide) | exact Or.inl (by omega) | exact Or.inr (by decide) | exact Or.inr (by omega)) ?_
          refine wp_getR dX12_leads_155 fX12_188 rfl (by decide) ?_
          refine wp_topR (x' := 182) rfl ?_
          refine wp_iload_n dX12_leads_158 rfl rfl ?_
          refine wp_iald dX12_leads_159 rfl (by decide) c0 ?_
          refine wp_aload_n dX12_leads_160 rfl rfl (by first | exact Or.inl (by decide) | exact Or.inl (by omega) | exact Or.inr (by decide) | exact Or.inr (by omega)) ?_
          refine wp_pc (pc' := 161) rfl ?_
          refine wp_getR dX12_leads_161 fX12_191 rfl (by decide) ?_
          refine wp_topR (x' := 183) rfl ?_
          refine wp_iload_n dX12_leads_164 rfl rfl ?_
          refine wp_iald dX12_leads_165 rfl (by decide) c0 ?_
          refine wp_cVq (n := 3) (mt' := mX12_isCalled) (as := [vI l3, vI (MI 182 l1.toNat), vI (MI 183 l1.toNat)]) (rest := []) _ dX12_leads_166 lX12_588 kX12_isCalled vX12_isCalled (by decide) (by decide +kernel) rfl (Nat.le_of_ble_eq_true rfl) (by decide) rfl rfl rfl (Nat.le_of_ble_eq_true rfl) (fun hM hS => h) (fun r M' hq hM => ?_)
          obtain ⟨x166, m166, n166, rfl, rfl, h⟩ := rI_out hq
          refine wp_if_eq (tgt := 176) dX12_leads_169 (by decide) (fun h169 => ?_) (fun h169 => ?_)
          · replace h := h.1 h169
            refine wp_iconst dX12_leads_176 (by decide) ?_
            exact wp_zret dX12_leads_177 rfl (by decide) (fun _ => h)
          · replace h := h.2 h169
            refine wp_iconst dX12_leads_172 (by decide) ?_
            refine wp_goto (tgt := 177) dX12_leads_173 (by decide) ?_
            exact wp_zret dX12_leads_177 rfl (by decide) (fun _ => h)
    · refine wp_topI (x' := 4) q ?_
      refine wp_tableIn (tgt := 178) dX12_leads_49 (by decide) rfl (by decide) ?_
      replace h := h.2.2.2.2.1 q
      refine wp_iload dX12_leads_178 rfl ?_
      refine wp_if_eq (tgt := 193) dX12_leads_180 (by decide) (fun h180 => ?_) (fun h180 => ?_)
      · replace h := h.1 h180
        refine wp_iconst dX12_leads_193 (by decide) ?_
        exact wp_zret dX12_leads_194 rfl (by decide) (fun _ => h)
      · replace h := h.2 h180
        refine wp_iload dX12_leads_183 rfl ?_
        refine wp_iconst dX12_leads_185 (by decide) ?_
        refine wp_icmp_ne (tgt := 193) dX12_leads_186 (by decide) (fun h186 => ?_) (fun h186 => ?_)
        · replace h := h.2 h186
          refine wp_iconst dX12_leads_193 (by decide) ?_
          exact wp_zret dX12_leads_194 rfl (by decide) (fun _ => h)
        · replace h := h.1 h186
          refine wp_iconst dX12_leads_189 (by decide) ?_
          refine wp_goto (tgt := 194) dX12_leads_190 (by decide) ?_
          exact wp_zret dX12_leads_194 rfl (by decide) (fun _ => h)
    · refine wp_topI (x' := 5) q ?_
      refine wp_tableIn (tgt := 195) dX12_leads_49 (by decide) rfl (by decide) ?_
      replace h := h.2.2.2.2.2.1 q
      refine wp_iload dX12_leads_195 rfl ?_
      refine wp_if_eq (tgt := 230) dX12_leads_197 (by decide) (fun h197 => ?_) (fun h197 => ?_)
      · replace h := h.1 h197
        refine wp_iconst dX12_leads_230 (by decide) ?_
        exact wp_zret dX12_leads_231 rfl (by decide) (fun _ => h)
      · replace h := h.2 h197
        refine wp_iload dX12_leads_200 rfl ?_
        refine wp_iconst dX12_leads_202 (by decide) ?_
        refine wp_icmp_ne (tgt := 230) dX12_leads_203 (by decide) (fun h203 => ?_) (fun h203 => ?_)
        · replace h := h.2 h203
          refine wp_iconst dX12_leads_230 (by decide) ?_
          exact wp_zret dX12_leads_231 rfl (by decide) (fun _ => h)
        · replace h := h.1 h203
          refine wp_aload_n dX12_leads_206 rfl rfl (by first | exact Or.inl (by decide) | exact Or.inl (by omega) | exact Or.inr (by decide) | exact Or.inr (by omega)) ?_
          refine wp_iload_n dX12_leads_207 rfl rfl ?_
          refine wp_aload_n dX12_leads_208 rfl rfl (by first | exact Or.inl (by decide) | exact Or.inl (by omega) | exact Or.inr (by decide) | exact Or.inr (by omega)) ?_
          refine wp_getR dX12_leads_209 fX12_188 rfl (by decide) ?_
          refine wp_topR (x' := 182) rfl ?_
          refine wp_iload_n dX12_leads_212 rfl rfl ?_
          refine wp_iald dX12_leads_213 rfl (by decide) c0 ?_
          refine wp_aload_n dX12_leads_214 rfl rfl (by first | exact Or.inl (by decide) | exact Or.inl (by omega) | exact Or.inr (by decide) | exact Or.inr (by omega)) ?_
          refine wp_pc (pc' := 215) rfl ?_
          refine wp_getR dX12_leads_215 fX12_191 rfl (by decide) ?_
          refine wp_topR (x' := 183) rfl ?_
          refine wp_iload_n dX12_leads_218 rfl rfl ?_
          refine wp_iald dX12_leads_219 rfl (by decide) c0 ?_
          refine wp_cVq (n := 3) (mt' := mX12_isCalled) (as := [vI l3, vI (MI 182 l1.toNat), vI (MI 183 l1.toNat)]) (rest := []) _ dX12_leads_220 lX12_588 kX12_isCalled vX12_isCalled (by decide) (by decide +kernel) rfl (Nat.le_of_ble_eq_true rfl) (by decide) rfl rfl rfl (Nat.le_of_ble_eq_true rfl) (fun hM hS => h) (fun r M' hq hM => ?_)
          obtain ⟨x220, m220, n220, rfl, rfl, h⟩ := rI_out hq
          refine wp_if_eq (tgt := 230) dX12_leads_223 (by decide) (fun h223 => ?_) (fun h223 => ?_)
          · replace h := h.1 h223
            refine wp_iconst dX12_leads_230 (by decide) ?_
            exact wp_zret dX12_leads_231 rfl (by decide) (fun _ => h)
          · replace h := h.2 h223
            refine wp_iconst dX12_leads_226 (by decide) ?_
            refine wp_goto (tgt := 231) dX12_leads_227 (by decide) ?_
            exact wp_zret dX12_leads_231 rfl (by decide) (fun _ => h)
  · refine wp_tableOut (tgt := 232) dX12_leads_49 (by omega) (by decide) ?_
    replace h := h.2.2.2.2.2.2 (by omega)
    refine wp_iload dX12_leads_232 rfl ?_
    refine wp_if_eq (tgt := 247) dX12_leads_234 (by decide) (fun h234 => ?_) (fun h234 => ?_)
    · replace h := h.1 h234
      refine wp_iconst dX12_leads_247 (by decide) ?_
      exact wp_zret dX12_leads_248 rfl (by decide) (fun _ => h)
    · replace h := h.2 h234
      refine wp_iload dX12_leads_237 rfl ?_
      refine wp_iconst dX12_leads_239 (by decide) ?_
      refine wp_icmp_ne (tgt := 247) dX12_leads_240 (by decide) (fun h240 => ?_) (fun h240 => ?_)
      · replace h := h.2 h240
        refine wp_iconst dX12_leads_247 (by decide) ?_
        exact wp_zret dX12_leads_248 rfl (by decide) (fun _ => h)
      · replace h := h.1 h240
        refine wp_iconst dX12_leads_243 (by decide) ?_
        refine wp_goto (tgt := 248) dX12_leads_244 (by decide) ?_
        exact wp_zret dX12_leads_248 rfl (by decide) (fun _ => h)
theorem dX12_hasString_0 : decode cX12_hasString 0 = .ok (.aload_n 0, 1) := by decide +kernel
theorem dX12_hasString_1 : decode cX12_hasString 1 = .ok (.iload_n 1, 1) := by decide +kernel
theorem dX12_hasString_2 : decode cX12_hasString 2 = .ok (.invokevirtual 591, 3) := by decide +kernel
theorem dX12_hasString_5 : decode cX12_hasString 5 = .ok (.iload_n 3, 1) := by decide +kernel
theorem dX12_hasString_6 : decode cX12_hasString 6 = .ok (.if_icmp .ne 7, 3) := by decide +kernel
theorem dX12_hasString_9 : decode cX12_hasString 9 = .ok (.iconst 1, 1) := by decide +kernel
theorem dX12_hasString_10 : decode cX12_hasString 10 = .ok (.goto 4, 3) := by decide +kernel
theorem dX12_hasString_13 : decode cX12_hasString 13 = .ok (.iconst 0, 1) := by decide +kernel
theorem dX12_hasString_14 : decode cX12_hasString 14 = .ok (.istore 4, 2) := by decide +kernel
theorem dX12_hasString_16 : decode cX12_hasString 16 = .ok (.iconst 0, 1) := by decide +kernel
theorem dX12_hasString_17 : decode cX12_hasString 17 = .ok (.istore 5, 2) := by decide +kernel
theorem dX12_hasString_19 : decode cX12_hasString 19 = .ok (.iload 5, 2) := by decide +kernel
theorem dX12_hasString_21 : decode cX12_hasString 21 = .ok (.iload_n 3, 1) := by decide +kernel
theorem dX12_hasString_22 : decode cX12_hasString 22 = .ok (.if_icmp .ge 44, 3) := by decide +kernel
theorem dX12_hasString_25 : decode cX12_hasString 25 = .ok (.iload 4, 2) := by decide +kernel
theorem dX12_hasString_27 : decode cX12_hasString 27 = .ok (.ifCond .eq 39, 3) := by decide +kernel
theorem dX12_hasString_30 : decode cX12_hasString 30 = .ok (.aload_n 0, 1) := by decide +kernel
theorem dX12_hasString_31 : decode cX12_hasString 31 = .ok (.getfield 13, 3) := by decide +kernel
theorem dX12_hasString_34 : decode cX12_hasString 34 = .ok (.iload_n 2, 1) := by decide +kernel
theorem dX12_hasString_35 : decode cX12_hasString 35 = .ok (.iload 5, 2) := by decide +kernel
theorem dX12_hasString_37 : decode cX12_hasString 37 = .ok (.iadd, 1) := by decide +kernel
theorem dX12_hasString_38 : decode cX12_hasString 38 = .ok (.baload, 1) := by decide +kernel
theorem dX12_hasString_39 : decode cX12_hasString 39 = .ok (.sipush 255, 3) := by decide +kernel
theorem dX12_hasString_42 : decode cX12_hasString 42 = .ok (.iand, 1) := by decide +kernel
theorem dX12_hasString_43 : decode cX12_hasString 43 = .ok (.aload_n 0, 1) := by decide +kernel
theorem dX12_hasString_44 : decode cX12_hasString 44 = .ok (.iload_n 1, 1) := by decide +kernel
theorem dX12_hasString_45 : decode cX12_hasString 45 = .ok (.iload 5, 2) := by decide +kernel
theorem dX12_hasString_47 : decode cX12_hasString 47 = .ok (.invokevirtual 594, 3) := by decide +kernel
theorem dX12_hasString_50 : decode cX12_hasString 50 = .ok (.if_icmp .ne 7, 3) := by decide +kernel
theorem dX12_hasString_53 : decode cX12_hasString 53 = .ok (.iconst 1, 1) := by decide +kernel
theorem dX12_hasString_54 : decode cX12_hasString 54 = .ok (.goto 4, 3) := by decide +kernel
theorem dX12_hasString_57 : decode cX12_hasString 57 = .ok (.iconst 0, 1) := by decide +kernel
theorem dX12_hasString_58 : decode cX12_hasString 58 = .ok (.istore 4, 2) := by decide +kernel
theorem dX12_hasString_60 : decode cX12_hasString 60 = .ok (.iinc 5 1, 3) := by decide +kernel
theorem dX12_hasString_63 : decode cX12_hasString 63 = .ok (.goto (-44), 3) := by decide +kernel
theorem dX12_hasString_66 : decode cX12_hasString 66 = .ok (.iload 4, 2) := by decide +kernel
theorem dX12_hasString_68 : decode cX12_hasString 68 = .ok (.ireturn, 1) := by decide +kernel
theorem v_X12_hasString_0 {cs : Cs} {Q : Option AV → Mm → Prop} {MI ML : Nat → Nat → Int} {d e nw th x : Nat} {l1 l2 l3 : Int}
    (h : wp cs mX12_stringOf KD (rI (GR d e nw th x) fun x2 m2 n2 => ((x2 = l3 → wp cs mX12_hasString KD Q 19 [some (vR 124), some (vI l1), some (vI l2), some (vI l3), some (vI 1), some (vI 0)] [] (KD, m2, n2, (GR d e nw th x))) ∧ (x2 ≠ l3 → wp cs mX12_hasString KD Q 19 [some (vR 124), some (vI l1), some (vI l2), some (vI l3), some (vI 0), some (vI 0)] [] (KD, m2, n2, (GR d e nw th x))))) 0 (padL [vR 124, vI l1] 5) [] (KD, MI, ML, (GR d e nw th x))) :
    wp cs mX12_hasString KD Q 0 (padL [vR 124, vI l1, vI l2, vI l3] 6) [] (KD, MI, ML, (GR d e nw th x)) := by
  refine wp_L (L' := [some (vR 124), some (vI l1), some (vI l2), some (vI l3), none, none]) rfl ?_
  refine wp_aload_n dX12_hasString_0 rfl rfl (by first | exact Or.inl (by decide) | exact Or.inl (by omega) | exact Or.inr (by decide) | exact Or.inr (by omega)) ?_
  refine wp_iload_n dX12_hasString_1 rfl rfl ?_
  refine wp_cVq (n := 1) (mt' := mX12_stringOf) (as := [vI l1]) (rest := []) _ dX12_hasString_2 lX12_591 kX12_stringOf vX12_stringOf (by decide) (by decide +kernel) rfl (Nat.le_of_ble_eq_true rfl) (by decide) rfl rfl rfl (Nat.le_of_ble_eq_true rfl) (fun hM hS => h) (fun r M' hq hM => ?_)
  obtain ⟨x2, m2, n2, rfl, rfl, h⟩ := rI_out hq
  refine wp_iload_n dX12_hasString_5 rfl rfl ?_
  refine wp_icmp_ne (tgt := 13) dX12_hasString_6 (by decide) (fun h6 => ?_) (fun h6 => ?_)
  · replace h := h.2 h6
    refine wp_iconst dX12_hasString_13 (by decide) ?_
    refine wp_istore dX12_hasString_14 (by decide) (wp_L (L' := [some (vR 124), some (vI l1), some (vI l2), some (vI l3), some (vI 0), none]) rfl ?_)
    refine wp_iconst dX12_hasString_16 (by decide) ?_
    refine wp_istore dX12_hasString_17 (by decide) (wp_L (L' := [some (vR 124), some (vI l1), some (vI l2), some (vI l3), some (vI 0), some (vI 0)]) rfl ?_)
    exact h
  · replace h := h.1 h6
    refine wp_iconst dX12_hasString_9 (by decide) ?_
    refine wp_goto (tgt := 14) dX12_hasString_10 (by decide) ?_
    refine wp_istore dX12_hasString_14 (by decide) (wp_L (L' := [some (vR 124), some (vI l1), some (vI l2), some (vI l3), some (vI 1), none]) rfl ?_)
    refine wp_iconst dX12_hasString_16 (by decide) ?_
    refine wp_istore dX12_hasString_17 (by decide) (wp_L (L' := [some (vR 124), some (vI l1), some (vI l2), some (vI l3), some (vI 1), some (vI 0)]) rfl ?_)
    exact h
theorem v_X12_hasString_19 {cs : Cs} {Q : Option AV → Mm → Prop} {MI ML : Nat → Nat → Int} {d e nw th x : Nat} {l1 l2 l3 l4 l5 : Int}
    (h : ((l5 < l3 → ((l4 = 0 → (l4 = 0 ∨ l4 = 1) ∧ Q (some (vI l4)) (MI, ML, (GR d e nw th x))) ∧ (l4 ≠ 0 → (-2147483648 ≤ l2 + l5 ∧ l2 + l5 < 2147483648) ∧ (0 ≤ (l2 + l5) ∧ (l2 + l5) < 6000) ∧ wp cs mX12_stringAt KD (rI (GR d e nw th x) fun x47 m47 n47 => (((i_and (MI 126 (l2 + l5).toNat) 255) = x47 → (-2147483648 ≤ l5 + 1 ∧ l5 + 1 < 2147483648) ∧ wp cs mX12_hasString KD Q 19 [some (vR 124), some (vI l1), some (vI l2), some (vI l3), some (vI 1), some (vI (l5 + 1))] [] (KD, m47, n47, (GR d e nw th x))) ∧ ((i_and (MI 126 (l2 + l5).toNat) 255) ≠ x47 → (-2147483648 ≤ l5 + 1 ∧ l5 + 1 < 2147483648) ∧ wp cs mX12_hasString KD Q 19 [some (vR 124), some (vI l1), some (vI l2), some (vI l3), some (vI 0), some (vI (l5 + 1))] [] (KD, m47, n47, (GR d e nw th x))))) 0 (padL [vR 124, vI l1, vI l5] 7) [] (KD, MI, ML, (GR d e nw th x))))) ∧ (l3 ≤ l5 → (l4 = 0 ∨ l4 = 1) ∧ Q (some (vI l4)) (MI, ML, (GR d e nw th x))))) :
    wp cs mX12_hasString KD Q 19 [some (vR 124), some (vI l1), some (vI l2), some (vI l3), some (vI l4), some (vI l5)] [] (KD, MI, ML, (GR d e nw th x)) := by
  refine wp_iload dX12_hasString_19 rfl ?_
  refine wp_iload_n dX12_hasString_21 rfl rfl ?_
  refine wp_icmp_ge (tgt := 66) dX12_hasString_22 (by decide) (fun h22 => ?_) (fun h22 => ?_)
  · replace h := h.2 h22
    refine wp_iload dX12_hasString_66 rfl ?_
    exact wp_zret dX12_hasString_68 rfl h.1 (fun _ => h.2)
  · replace h := h.1 h22
    refine wp_iload dX12_hasString_25 rfl ?_
    refine wp_if_eq (tgt := 66) dX12_hasString_27 (by decide) (fun h27 => ?_) (fun h27 => ?_)
    · replace h := h.1 h27
      refine wp_iload dX12_hasString_66 rfl ?_
      exact wp_zret dX12_hasString_68 rfl h.1 (fun _ => h.2)
    · replace h := h.2 h27
      refine wp_aload_n dX12_hasString_30 rfl rfl (by first | exact Or.inl (by decide) | exact Or.inl (by omega) | exact Or.inr (by decide) | exact Or.inr (by omega)) ?_
      refine wp_getR dX12_hasString_31 fX12_13 rfl (by decide) ?_
      refine wp_topR (x' := 126) rfl ?_
      refine wp_iload_n dX12_hasString_34 rfl rfl ?_
      refine wp_iload dX12_hasString_35 rfl ?_
      have c0 := h.1
      replace h := h.2
      refine wp_iaddr dX12_hasString_37 c0 ?_
      have c1 := h.1
      replace h := h.2
      refine wp_bald dX12_hasString_38 rfl (by decide) c1 ?_
      refine wp_sipush dX12_hasString_39 (by decide +kernel) (by decide) ?_
      refine wp_pc (pc' := 42) rfl ?_
      refine wp_iand dX12_hasString_42 ?_
      refine wp_aload_n dX12_hasString_43 rfl rfl (by first | exact Or.inl (by decide) | exact Or.inl (by omega) | exact Or.inr (by decide) | exact Or.inr (by omega)) ?_
      refine wp_iload_n dX12_hasString_44 rfl rfl ?_
      refine wp_iload dX12_hasString_45 rfl ?_
      refine wp_cVq (n := 2) (mt' := mX12_stringAt) (as := [vI l1, vI l5]) (rest := [vI (i_and (MI 126 (l2 + l5).toNat) 255)]) _ dX12_hasString_47 lX12_594 kX12_stringAt vX12_stringAt (by decide) (by decide +kernel) rfl (Nat.le_of_ble_eq_true rfl) (by decide) rfl rfl rfl (Nat.le_of_ble_eq_true rfl) (fun hM hS => h) (fun r M' hq hM => ?_)
      obtain ⟨x47, m47, n47, rfl, rfl, h⟩ := rI_out hq
      refine wp_icmp_ne (tgt := 57) dX12_hasString_50 (by decide) (fun h50 => ?_) (fun h50 => ?_)
      · replace h := h.2 h50
        refine wp_iconst dX12_hasString_57 (by decide) ?_
        refine wp_istore dX12_hasString_58 (by decide) (wp_L (L' := [some (vR 124), some (vI l1), some (vI l2), some (vI l3), some (vI 0), some (vI l5)]) rfl ?_)
        have c2 := h.1
        replace h := h.2
        refine wp_iincr dX12_hasString_60 rfl (by decide) c2 (wp_L (L' := [some (vR 124), some (vI l1), some (vI l2), some (vI l3), some (vI 0), some (vI (l5 + 1))]) rfl ?_)
        refine wp_goto (tgt := 19) dX12_hasString_63 (by decide) ?_
        exact h
      · replace h := h.1 h50
        refine wp_iconst dX12_hasString_53 (by decide) ?_
        refine wp_goto (tgt := 58) dX12_hasString_54 (by decide) ?_
        refine wp_istore dX12_hasString_58 (by decide) (wp_L (L' := [some (vR 124), some (vI l1), some (vI l2), some (vI l3), some (vI 1), some (vI l5)]) rfl ?_)
        have c2 := h.1
        replace h := h.2
        refine wp_iincr dX12_hasString_60 rfl (by decide) c2 (wp_L (L' := [some (vR 124), some (vI l1), some (vI l2), some (vI l3), some (vI 1), some (vI (l5 + 1))]) rfl ?_)
        refine wp_goto (tgt := 19) dX12_hasString_63 (by decide) ?_
        exact h
