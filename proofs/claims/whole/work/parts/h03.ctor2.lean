/-! The reference's constructor. -/
theorem dX12_init_0 : decode cX12_init 0 = .ok (.aload_n 0, 1) := by decide +kernel
theorem dX12_init_1 : decode cX12_init 1 = .ok (.invokespecial 1, 3) := by decide +kernel
theorem dX12_init_4 : decode cX12_init 4 = .ok (.aload_n 0, 1) := by decide +kernel
theorem dX12_init_5 : decode cX12_init 5 = .ok (.sipush 6000, 3) := by decide +kernel
theorem dX12_init_8 : decode cX12_init 8 = .ok (.newarray .byte, 2) := by decide +kernel
theorem dX12_init_10 : decode cX12_init 10 = .ok (.putfield 7, 3) := by decide +kernel
theorem dX12_init_13 : decode cX12_init 13 = .ok (.aload_n 0, 1) := by decide +kernel
theorem dX12_init_14 : decode cX12_init 14 = .ok (.sipush 6000, 3) := by decide +kernel
theorem dX12_init_17 : decode cX12_init 17 = .ok (.newarray .byte, 2) := by decide +kernel
theorem dX12_init_19 : decode cX12_init 19 = .ok (.putfield 13, 3) := by decide +kernel
theorem dX12_init_22 : decode cX12_init 22 = .ok (.aload_n 0, 1) := by decide +kernel
theorem dX12_init_23 : decode cX12_init 23 = .ok (.iconst (-1), 1) := by decide +kernel
theorem dX12_init_24 : decode cX12_init 24 = .ok (.putfield 16, 3) := by decide +kernel
theorem dX12_init_27 : decode cX12_init 27 = .ok (.aload_n 0, 1) := by decide +kernel
theorem dX12_init_28 : decode cX12_init 28 = .ok (.iconst 2, 1) := by decide +kernel
theorem dX12_init_29 : decode cX12_init 29 = .ok (.newarray .boolean, 2) := by decide +kernel
theorem dX12_init_31 : decode cX12_init 31 = .ok (.putfield 20, 3) := by decide +kernel
theorem dX12_init_34 : decode cX12_init 34 = .ok (.aload_n 0, 1) := by decide +kernel
theorem dX12_init_35 : decode cX12_init 35 = .ok (.sipush 12000, 3) := by decide +kernel
theorem dX12_init_38 : decode cX12_init 38 = .ok (.newarray .byte, 2) := by decide +kernel
theorem dX12_init_40 : decode cX12_init 40 = .ok (.putfield 24, 3) := by decide +kernel
theorem dX12_init_43 : decode cX12_init 43 = .ok (.aload_n 0, 1) := by decide +kernel
theorem dX12_init_44 : decode cX12_init 44 = .ok (.iconst 2, 1) := by decide +kernel
theorem dX12_init_45 : decode cX12_init 45 = .ok (.newarray .int, 2) := by decide +kernel
theorem dX12_init_47 : decode cX12_init 47 = .ok (.putfield 27, 3) := by decide +kernel
theorem dX12_init_50 : decode cX12_init 50 = .ok (.aload_n 0, 1) := by decide +kernel
theorem dX12_init_51 : decode cX12_init 51 = .ok (.sipush 1200, 3) := by decide +kernel
theorem dX12_init_54 : decode cX12_init 54 = .ok (.newarray .int, 2) := by decide +kernel
theorem dX12_init_56 : decode cX12_init 56 = .ok (.putfield 31, 3) := by decide +kernel
theorem dX12_init_59 : decode cX12_init 59 = .ok (.aload_n 0, 1) := by decide +kernel
theorem dX12_init_60 : decode cX12_init 60 = .ok (.sipush 1200, 3) := by decide +kernel
theorem dX12_init_63 : decode cX12_init 63 = .ok (.newarray .int, 2) := by decide +kernel
theorem dX12_init_65 : decode cX12_init 65 = .ok (.putfield 34, 3) := by decide +kernel
theorem dX12_init_68 : decode cX12_init 68 = .ok (.aload_n 0, 1) := by decide +kernel
theorem dX12_init_69 : decode cX12_init 69 = .ok (.sipush 1200, 3) := by decide +kernel
theorem dX12_init_72 : decode cX12_init 72 = .ok (.newarray .int, 2) := by decide +kernel
theorem dX12_init_74 : decode cX12_init 74 = .ok (.putfield 37, 3) := by decide +kernel
theorem dX12_init_77 : decode cX12_init 77 = .ok (.aload_n 0, 1) := by decide +kernel
theorem dX12_init_78 : decode cX12_init 78 = .ok (.sipush 1200, 3) := by decide +kernel
theorem dX12_init_81 : decode cX12_init 81 = .ok (.newarray .int, 2) := by decide +kernel
theorem dX12_init_83 : decode cX12_init 83 = .ok (.putfield 40, 3) := by decide +kernel
theorem dX12_init_86 : decode cX12_init 86 = .ok (.aload_n 0, 1) := by decide +kernel
theorem dX12_init_87 : decode cX12_init 87 = .ok (.sipush 1200, 3) := by decide +kernel
theorem dX12_init_90 : decode cX12_init 90 = .ok (.newarray .int, 2) := by decide +kernel
theorem dX12_init_92 : decode cX12_init 92 = .ok (.putfield 43, 3) := by decide +kernel
theorem dX12_init_95 : decode cX12_init 95 = .ok (.aload_n 0, 1) := by decide +kernel
theorem dX12_init_96 : decode cX12_init 96 = .ok (.sipush 1200, 3) := by decide +kernel
theorem dX12_init_99 : decode cX12_init 99 = .ok (.newarray .int, 2) := by decide +kernel
theorem dX12_init_101 : decode cX12_init 101 = .ok (.putfield 46, 3) := by decide +kernel
theorem dX12_init_104 : decode cX12_init 104 = .ok (.aload_n 0, 1) := by decide +kernel
theorem dX12_init_105 : decode cX12_init 105 = .ok (.sipush 1200, 3) := by decide +kernel
theorem dX12_init_108 : decode cX12_init 108 = .ok (.newarray .boolean, 2) := by decide +kernel
theorem dX12_init_110 : decode cX12_init 110 = .ok (.putfield 49, 3) := by decide +kernel
theorem dX12_init_113 : decode cX12_init 113 = .ok (.aload_n 0, 1) := by decide +kernel
theorem dX12_init_114 : decode cX12_init 114 = .ok (.sipush 1200, 3) := by decide +kernel
theorem dX12_init_117 : decode cX12_init 117 = .ok (.newarray .boolean, 2) := by decide +kernel
theorem dX12_init_119 : decode cX12_init 119 = .ok (.putfield 52, 3) := by decide +kernel
theorem dX12_init_122 : decode cX12_init 122 = .ok (.aload_n 0, 1) := by decide +kernel
theorem dX12_init_123 : decode cX12_init 123 = .ok (.sipush 4000, 3) := by decide +kernel
theorem dX12_init_126 : decode cX12_init 126 = .ok (.newarray .byte, 2) := by decide +kernel
theorem dX12_init_128 : decode cX12_init 128 = .ok (.putfield 55, 3) := by decide +kernel
theorem dX12_init_131 : decode cX12_init 131 = .ok (.aload_n 0, 1) := by decide +kernel
theorem dX12_init_132 : decode cX12_init 132 = .ok (.iconst 2, 1) := by decide +kernel
theorem dX12_init_133 : decode cX12_init 133 = .ok (.newarray .int, 2) := by decide +kernel
theorem dX12_init_135 : decode cX12_init 135 = .ok (.putfield 58, 3) := by decide +kernel
theorem dX12_init_138 : decode cX12_init 138 = .ok (.aload_n 0, 1) := by decide +kernel
theorem dX12_init_139 : decode cX12_init 139 = .ok (.iconst 2, 1) := by decide +kernel
theorem dX12_init_140 : decode cX12_init 140 = .ok (.newarray .int, 2) := by decide +kernel
theorem dX12_init_142 : decode cX12_init 142 = .ok (.putfield 61, 3) := by decide +kernel
theorem dX12_init_145 : decode cX12_init 145 = .ok (.aload_n 0, 1) := by decide +kernel
theorem dX12_init_146 : decode cX12_init 146 = .ok (.iconst 2, 1) := by decide +kernel
theorem dX12_init_147 : decode cX12_init 147 = .ok (.newarray .int, 2) := by decide +kernel
theorem dX12_init_149 : decode cX12_init 149 = .ok (.putfield 64, 3) := by decide +kernel
theorem dX12_init_152 : decode cX12_init 152 = .ok (.aload_n 0, 1) := by decide +kernel
theorem dX12_init_153 : decode cX12_init 153 = .ok (.iconst 2, 1) := by decide +kernel
theorem dX12_init_154 : decode cX12_init 154 = .ok (.newarray .int, 2) := by decide +kernel
theorem dX12_init_156 : decode cX12_init 156 = .ok (.putfield 67, 3) := by decide +kernel
theorem dX12_init_159 : decode cX12_init 159 = .ok (.aload_n 0, 1) := by decide +kernel
theorem dX12_init_160 : decode cX12_init 160 = .ok (.iconst 2, 1) := by decide +kernel
theorem dX12_init_161 : decode cX12_init 161 = .ok (.newarray .int, 2) := by decide +kernel
theorem dX12_init_163 : decode cX12_init 163 = .ok (.putfield 70, 3) := by decide +kernel
theorem dX12_init_166 : decode cX12_init 166 = .ok (.aload_n 0, 1) := by decide +kernel
theorem dX12_init_167 : decode cX12_init 167 = .ok (.bipush 60, 2) := by decide +kernel
theorem dX12_init_169 : decode cX12_init 169 = .ok (.newarray .int, 2) := by decide +kernel
theorem dX12_init_171 : decode cX12_init 171 = .ok (.putfield 73, 3) := by decide +kernel
theorem dX12_init_174 : decode cX12_init 174 = .ok (.aload_n 0, 1) := by decide +kernel
theorem dX12_init_175 : decode cX12_init 175 = .ok (.bipush 60, 2) := by decide +kernel
theorem dX12_init_177 : decode cX12_init 177 = .ok (.newarray .int, 2) := by decide +kernel
theorem dX12_init_179 : decode cX12_init 179 = .ok (.putfield 76, 3) := by decide +kernel
theorem dX12_init_182 : decode cX12_init 182 = .ok (.aload_n 0, 1) := by decide +kernel
theorem dX12_init_183 : decode cX12_init 183 = .ok (.bipush 60, 2) := by decide +kernel
theorem dX12_init_185 : decode cX12_init 185 = .ok (.newarray .int, 2) := by decide +kernel
theorem dX12_init_187 : decode cX12_init 187 = .ok (.putfield 79, 3) := by decide +kernel
theorem dX12_init_190 : decode cX12_init 190 = .ok (.aload_n 0, 1) := by decide +kernel
theorem dX12_init_191 : decode cX12_init 191 = .ok (.bipush 60, 2) := by decide +kernel
theorem dX12_init_193 : decode cX12_init 193 = .ok (.newarray .int, 2) := by decide +kernel
theorem dX12_init_195 : decode cX12_init 195 = .ok (.putfield 82, 3) := by decide +kernel
theorem dX12_init_198 : decode cX12_init 198 = .ok (.aload_n 0, 1) := by decide +kernel
theorem dX12_init_199 : decode cX12_init 199 = .ok (.sipush 2400, 3) := by decide +kernel
theorem dX12_init_202 : decode cX12_init 202 = .ok (.newarray .int, 2) := by decide +kernel
theorem dX12_init_204 : decode cX12_init 204 = .ok (.putfield 85, 3) := by decide +kernel
theorem dX12_init_207 : decode cX12_init 207 = .ok (.aload_n 0, 1) := by decide +kernel
theorem dX12_init_208 : decode cX12_init 208 = .ok (.sipush 2400, 3) := by decide +kernel
theorem dX12_init_211 : decode cX12_init 211 = .ok (.newarray .int, 2) := by decide +kernel
theorem dX12_init_213 : decode cX12_init 213 = .ok (.putfield 88, 3) := by decide +kernel
theorem dX12_init_216 : decode cX12_init 216 = .ok (.aload_n 0, 1) := by decide +kernel
theorem dX12_init_217 : decode cX12_init 217 = .ok (.bipush 60, 2) := by decide +kernel
theorem dX12_init_219 : decode cX12_init 219 = .ok (.newarray .long, 2) := by decide +kernel
theorem dX12_init_221 : decode cX12_init 221 = .ok (.putfield 91, 3) := by decide +kernel
theorem dX12_init_224 : decode cX12_init 224 = .ok (.aload_n 0, 1) := by decide +kernel
theorem dX12_init_225 : decode cX12_init 225 = .ok (.bipush 60, 2) := by decide +kernel
theorem dX12_init_227 : decode cX12_init 227 = .ok (.newarray .long, 2) := by decide +kernel
theorem dX12_init_229 : decode cX12_init 229 = .ok (.putfield 95, 3) := by decide +kernel
theorem dX12_init_232 : decode cX12_init 232 = .ok (.aload_n 0, 1) := by decide +kernel
theorem dX12_init_233 : decode cX12_init 233 = .ok (.bipush 60, 2) := by decide +kernel
theorem dX12_init_235 : decode cX12_init 235 = .ok (.newarray .boolean, 2) := by decide +kernel
theorem dX12_init_237 : decode cX12_init 237 = .ok (.putfield 98, 3) := by decide +kernel
theorem dX12_init_240 : decode cX12_init 240 = .ok (.aload_n 0, 1) := by decide +kernel
theorem dX12_init_241 : decode cX12_init 241 = .ok (.sipush 2400, 3) := by decide +kernel
theorem dX12_init_244 : decode cX12_init 244 = .ok (.newarray .long, 2) := by decide +kernel
theorem dX12_init_246 : decode cX12_init 246 = .ok (.putfield 101, 3) := by decide +kernel
theorem dX12_init_249 : decode cX12_init 249 = .ok (.aload_n 0, 1) := by decide +kernel
theorem dX12_init_250 : decode cX12_init 250 = .ok (.iconst 2, 1) := by decide +kernel
theorem dX12_init_251 : decode cX12_init 251 = .ok (.newarray .int, 2) := by decide +kernel
theorem dX12_init_253 : decode cX12_init 253 = .ok (.putfield 104, 3) := by decide +kernel
theorem dX12_init_256 : decode cX12_init 256 = .ok (.aload_n 0, 1) := by decide +kernel
theorem dX12_init_257 : decode cX12_init 257 = .ok (.sipush 1600, 3) := by decide +kernel
theorem dX12_init_260 : decode cX12_init 260 = .ok (.newarray .int, 2) := by decide +kernel
theorem dX12_init_262 : decode cX12_init 262 = .ok (.putfield 107, 3) := by decide +kernel
theorem dX12_init_265 : decode cX12_init 265 = .ok (.aload_n 0, 1) := by decide +kernel
theorem dX12_init_266 : decode cX12_init 266 = .ok (.sipush 1600, 3) := by decide +kernel
theorem dX12_init_269 : decode cX12_init 269 = .ok (.newarray .int, 2) := by decide +kernel
theorem dX12_init_271 : decode cX12_init 271 = .ok (.putfield 110, 3) := by decide +kernel
theorem dX12_init_274 : decode cX12_init 274 = .ok (.aload_n 0, 1) := by decide +kernel
theorem dX12_init_275 : decode cX12_init 275 = .ok (.sipush 1600, 3) := by decide +kernel
theorem dX12_init_278 : decode cX12_init 278 = .ok (.newarray .int, 2) := by decide +kernel
theorem dX12_init_280 : decode cX12_init 280 = .ok (.putfield 113, 3) := by decide +kernel
theorem dX12_init_283 : decode cX12_init 283 = .ok (.aload_n 0, 1) := by decide +kernel
theorem dX12_init_284 : decode cX12_init 284 = .ok (.sipush 1600, 3) := by decide +kernel
theorem dX12_init_287 : decode cX12_init 287 = .ok (.newarray .int, 2) := by decide +kernel
theorem dX12_init_289 : decode cX12_init 289 = .ok (.putfield 116, 3) := by decide +kernel
theorem dX12_init_292 : decode cX12_init 292 = .ok (.aload_n 0, 1) := by decide +kernel
theorem dX12_init_293 : decode cX12_init 293 = .ok (.sipush 1600, 3) := by decide +kernel
theorem dX12_init_296 : decode cX12_init 296 = .ok (.newarray .int, 2) := by decide +kernel
theorem dX12_init_298 : decode cX12_init 298 = .ok (.putfield 119, 3) := by decide +kernel
theorem dX12_init_301 : decode cX12_init 301 = .ok (.aload_n 0, 1) := by decide +kernel
theorem dX12_init_302 : decode cX12_init 302 = .ok (.sipush 1600, 3) := by decide +kernel
theorem dX12_init_305 : decode cX12_init 305 = .ok (.newarray .int, 2) := by decide +kernel
theorem dX12_init_307 : decode cX12_init 307 = .ok (.putfield 122, 3) := by decide +kernel
theorem dX12_init_310 : decode cX12_init 310 = .ok (.aload_n 0, 1) := by decide +kernel
theorem dX12_init_311 : decode cX12_init 311 = .ok (.sipush 1600, 3) := by decide +kernel
theorem dX12_init_314 : decode cX12_init 314 = .ok (.newarray .int, 2) := by decide +kernel
theorem dX12_init_316 : decode cX12_init 316 = .ok (.putfield 125, 3) := by decide +kernel
theorem dX12_init_319 : decode cX12_init 319 = .ok (.aload_n 0, 1) := by decide +kernel
theorem dX12_init_320 : decode cX12_init 320 = .ok (.sipush 1600, 3) := by decide +kernel
theorem dX12_init_323 : decode cX12_init 323 = .ok (.newarray .int, 2) := by decide +kernel
theorem dX12_init_325 : decode cX12_init 325 = .ok (.putfield 128, 3) := by decide +kernel
theorem dX12_init_328 : decode cX12_init 328 = .ok (.aload_n 0, 1) := by decide +kernel
theorem dX12_init_329 : decode cX12_init 329 = .ok (.sipush 1600, 3) := by decide +kernel
theorem dX12_init_332 : decode cX12_init 332 = .ok (.newarray .int, 2) := by decide +kernel
theorem dX12_init_334 : decode cX12_init 334 = .ok (.putfield 131, 3) := by decide +kernel
theorem dX12_init_337 : decode cX12_init 337 = .ok (.aload_n 0, 1) := by decide +kernel
theorem dX12_init_338 : decode cX12_init 338 = .ok (.sipush 12800, 3) := by decide +kernel
theorem dX12_init_341 : decode cX12_init 341 = .ok (.newarray .int, 2) := by decide +kernel
theorem dX12_init_343 : decode cX12_init 343 = .ok (.putfield 134, 3) := by decide +kernel
theorem dX12_init_346 : decode cX12_init 346 = .ok (.aload_n 0, 1) := by decide +kernel
theorem dX12_init_347 : decode cX12_init 347 = .ok (.sipush 12800, 3) := by decide +kernel
theorem dX12_init_350 : decode cX12_init 350 = .ok (.newarray .int, 2) := by decide +kernel
theorem dX12_init_352 : decode cX12_init 352 = .ok (.putfield 137, 3) := by decide +kernel
theorem dX12_init_355 : decode cX12_init 355 = .ok (.aload_n 0, 1) := by decide +kernel
theorem dX12_init_356 : decode cX12_init 356 = .ok (.sipush 1700, 3) := by decide +kernel
theorem dX12_init_359 : decode cX12_init 359 = .ok (.newarray .int, 2) := by decide +kernel
theorem dX12_init_361 : decode cX12_init 361 = .ok (.putfield 140, 3) := by decide +kernel
theorem dX12_init_364 : decode cX12_init 364 = .ok (.aload_n 0, 1) := by decide +kernel
theorem dX12_init_365 : decode cX12_init 365 = .ok (.iconst 2, 1) := by decide +kernel
theorem dX12_init_366 : decode cX12_init 366 = .ok (.newarray .int, 2) := by decide +kernel
theorem dX12_init_368 : decode cX12_init 368 = .ok (.putfield 143, 3) := by decide +kernel
theorem dX12_init_371 : decode cX12_init 371 = .ok (.aload_n 0, 1) := by decide +kernel
theorem dX12_init_372 : decode cX12_init 372 = .ok (.bipush 8, 2) := by decide +kernel
theorem dX12_init_374 : decode cX12_init 374 = .ok (.newarray .int, 2) := by decide +kernel
theorem dX12_init_376 : decode cX12_init 376 = .ok (.putfield 146, 3) := by decide +kernel
theorem dX12_init_379 : decode cX12_init 379 = .ok (.aload_n 0, 1) := by decide +kernel
theorem dX12_init_380 : decode cX12_init 380 = .ok (.bipush 8, 2) := by decide +kernel
theorem dX12_init_382 : decode cX12_init 382 = .ok (.newarray .boolean, 2) := by decide +kernel
theorem dX12_init_384 : decode cX12_init 384 = .ok (.putfield 149, 3) := by decide +kernel
theorem dX12_init_387 : decode cX12_init 387 = .ok (.aload_n 0, 1) := by decide +kernel
theorem dX12_init_388 : decode cX12_init 388 = .ok (.bipush 8, 2) := by decide +kernel
theorem dX12_init_390 : decode cX12_init 390 = .ok (.newarray .boolean, 2) := by decide +kernel
theorem dX12_init_392 : decode cX12_init 392 = .ok (.putfield 152, 3) := by decide +kernel
theorem dX12_init_395 : decode cX12_init 395 = .ok (.aload_n 0, 1) := by decide +kernel
theorem dX12_init_396 : decode cX12_init 396 = .ok (.bipush 8, 2) := by decide +kernel
theorem dX12_init_398 : decode cX12_init 398 = .ok (.newarray .long, 2) := by decide +kernel
theorem dX12_init_400 : decode cX12_init 400 = .ok (.putfield 155, 3) := by decide +kernel
theorem dX12_init_403 : decode cX12_init 403 = .ok (.aload_n 0, 1) := by decide +kernel
theorem dX12_init_404 : decode cX12_init 404 = .ok (.bipush 8, 2) := by decide +kernel
theorem dX12_init_406 : decode cX12_init 406 = .ok (.newarray .long, 2) := by decide +kernel
theorem dX12_init_408 : decode cX12_init 408 = .ok (.putfield 158, 3) := by decide +kernel
theorem dX12_init_411 : decode cX12_init 411 = .ok (.aload_n 0, 1) := by decide +kernel
theorem dX12_init_412 : decode cX12_init 412 = .ok (.bipush 31, 2) := by decide +kernel
theorem dX12_init_414 : decode cX12_init 414 = .ok (.newarray .int, 2) := by decide +kernel
theorem dX12_init_416 : decode cX12_init 416 = .ok (.putfield 161, 3) := by decide +kernel
theorem dX12_init_419 : decode cX12_init 419 = .ok (.aload_n 0, 1) := by decide +kernel
theorem dX12_init_420 : decode cX12_init 420 = .ok (.sipush 8000, 3) := by decide +kernel
theorem dX12_init_423 : decode cX12_init 423 = .ok (.newarray .int, 2) := by decide +kernel
theorem dX12_init_425 : decode cX12_init 425 = .ok (.putfield 164, 3) := by decide +kernel
theorem dX12_init_428 : decode cX12_init 428 = .ok (.aload_n 0, 1) := by decide +kernel
theorem dX12_init_429 : decode cX12_init 429 = .ok (.sipush 8000, 3) := by decide +kernel
theorem dX12_init_432 : decode cX12_init 432 = .ok (.newarray .int, 2) := by decide +kernel
theorem dX12_init_434 : decode cX12_init 434 = .ok (.putfield 167, 3) := by decide +kernel
theorem dX12_init_437 : decode cX12_init 437 = .ok (.aload_n 0, 1) := by decide +kernel
theorem dX12_init_438 : decode cX12_init 438 = .ok (.sipush 600, 3) := by decide +kernel
theorem dX12_init_441 : decode cX12_init 441 = .ok (.newarray .int, 2) := by decide +kernel
theorem dX12_init_443 : decode cX12_init 443 = .ok (.putfield 170, 3) := by decide +kernel
theorem dX12_init_446 : decode cX12_init 446 = .ok (.aload_n 0, 1) := by decide +kernel
theorem dX12_init_447 : decode cX12_init 447 = .ok (.sipush 600, 3) := by decide +kernel
theorem dX12_init_450 : decode cX12_init 450 = .ok (.newarray .boolean, 2) := by decide +kernel
theorem dX12_init_452 : decode cX12_init 452 = .ok (.putfield 173, 3) := by decide +kernel
theorem dX12_init_455 : decode cX12_init 455 = .ok (.aload_n 0, 1) := by decide +kernel
theorem dX12_init_456 : decode cX12_init 456 = .ok (.sipush 600, 3) := by decide +kernel
theorem dX12_init_459 : decode cX12_init 459 = .ok (.newarray .boolean, 2) := by decide +kernel
theorem dX12_init_461 : decode cX12_init 461 = .ok (.putfield 176, 3) := by decide +kernel
theorem dX12_init_464 : decode cX12_init 464 = .ok (.aload_n 0, 1) := by decide +kernel
theorem dX12_init_465 : decode cX12_init 465 = .ok (.sipush 600, 3) := by decide +kernel
theorem dX12_init_468 : decode cX12_init 468 = .ok (.newarray .boolean, 2) := by decide +kernel
theorem dX12_init_470 : decode cX12_init 470 = .ok (.putfield 179, 3) := by decide +kernel
theorem dX12_init_473 : decode cX12_init 473 = .ok (.aload_n 0, 1) := by decide +kernel
theorem dX12_init_474 : decode cX12_init 474 = .ok (.bipush 12, 2) := by decide +kernel
theorem dX12_init_476 : decode cX12_init 476 = .ok (.newarray .int, 2) := by decide +kernel
theorem dX12_init_478 : decode cX12_init 478 = .ok (.putfield 182, 3) := by decide +kernel
theorem dX12_init_481 : decode cX12_init 481 = .ok (.aload_n 0, 1) := by decide +kernel
theorem dX12_init_482 : decode cX12_init 482 = .ok (.bipush 12, 2) := by decide +kernel
theorem dX12_init_484 : decode cX12_init 484 = .ok (.newarray .boolean, 2) := by decide +kernel
theorem dX12_init_486 : decode cX12_init 486 = .ok (.putfield 185, 3) := by decide +kernel
theorem dX12_init_489 : decode cX12_init 489 = .ok (.aload_n 0, 1) := by decide +kernel
theorem dX12_init_490 : decode cX12_init 490 = .ok (.bipush 12, 2) := by decide +kernel
theorem dX12_init_492 : decode cX12_init 492 = .ok (.newarray .int, 2) := by decide +kernel
theorem dX12_init_494 : decode cX12_init 494 = .ok (.putfield 188, 3) := by decide +kernel
theorem dX12_init_497 : decode cX12_init 497 = .ok (.aload_n 0, 1) := by decide +kernel
theorem dX12_init_498 : decode cX12_init 498 = .ok (.bipush 12, 2) := by decide +kernel
theorem dX12_init_500 : decode cX12_init 500 = .ok (.newarray .int, 2) := by decide +kernel
theorem dX12_init_502 : decode cX12_init 502 = .ok (.putfield 191, 3) := by decide +kernel
theorem dX12_init_505 : decode cX12_init 505 = .ok (.aload_n 0, 1) := by decide +kernel
theorem dX12_init_506 : decode cX12_init 506 = .ok (.bipush 12, 2) := by decide +kernel
theorem dX12_init_508 : decode cX12_init 508 = .ok (.newarray .int, 2) := by decide +kernel
theorem dX12_init_510 : decode cX12_init 510 = .ok (.putfield 194, 3) := by decide +kernel
theorem dX12_init_513 : decode cX12_init 513 = .ok (.aload_n 0, 1) := by decide +kernel
theorem dX12_init_514 : decode cX12_init 514 = .ok (.bipush 48, 2) := by decide +kernel
theorem dX12_init_516 : decode cX12_init 516 = .ok (.newarray .int, 2) := by decide +kernel
theorem dX12_init_518 : decode cX12_init 518 = .ok (.putfield 197, 3) := by decide +kernel
theorem dX12_init_521 : decode cX12_init 521 = .ok (.aload_n 0, 1) := by decide +kernel
theorem dX12_init_522 : decode cX12_init 522 = .ok (.bipush 48, 2) := by decide +kernel
theorem dX12_init_524 : decode cX12_init 524 = .ok (.newarray .int, 2) := by decide +kernel
theorem dX12_init_526 : decode cX12_init 526 = .ok (.putfield 200, 3) := by decide +kernel
theorem dX12_init_529 : decode cX12_init 529 = .ok (.aload_n 0, 1) := by decide +kernel
theorem dX12_init_530 : decode cX12_init 530 = .ok (.bipush 48, 2) := by decide +kernel
theorem dX12_init_532 : decode cX12_init 532 = .ok (.newarray .int, 2) := by decide +kernel
theorem dX12_init_534 : decode cX12_init 534 = .ok (.putfield 203, 3) := by decide +kernel
theorem dX12_init_537 : decode cX12_init 537 = .ok (.aload_n 0, 1) := by decide +kernel
theorem dX12_init_538 : decode cX12_init 538 = .ok (.bipush 48, 2) := by decide +kernel
theorem dX12_init_540 : decode cX12_init 540 = .ok (.newarray .boolean, 2) := by decide +kernel
theorem dX12_init_542 : decode cX12_init 542 = .ok (.putfield 206, 3) := by decide +kernel
theorem dX12_init_545 : decode cX12_init 545 = .ok (.aload_n 0, 1) := by decide +kernel
theorem dX12_init_546 : decode cX12_init 546 = .ok (.bipush 48, 2) := by decide +kernel
theorem dX12_init_548 : decode cX12_init 548 = .ok (.newarray .int, 2) := by decide +kernel
theorem dX12_init_550 : decode cX12_init 550 = .ok (.putfield 209, 3) := by decide +kernel
theorem dX12_init_553 : decode cX12_init 553 = .ok (.aload_n 0, 1) := by decide +kernel
theorem dX12_init_554 : decode cX12_init 554 = .ok (.bipush 48, 2) := by decide +kernel
theorem dX12_init_556 : decode cX12_init 556 = .ok (.newarray .int, 2) := by decide +kernel
theorem dX12_init_558 : decode cX12_init 558 = .ok (.putfield 212, 3) := by decide +kernel
theorem dX12_init_561 : decode cX12_init 561 = .ok (.aload_n 0, 1) := by decide +kernel
theorem dX12_init_562 : decode cX12_init 562 = .ok (.ldc 215, 2) := by decide +kernel
theorem dX12_init_564 : decode cX12_init 564 = .ok (.newarray .byte, 2) := by decide +kernel
theorem dX12_init_566 : decode cX12_init 566 = .ok (.putfield 216, 3) := by decide +kernel
theorem dX12_init_569 : decode cX12_init 569 = .ok (.aload_n 0, 1) := by decide +kernel
theorem dX12_init_570 : decode cX12_init 570 = .ok (.sipush 4000, 3) := by decide +kernel
theorem dX12_init_573 : decode cX12_init 573 = .ok (.newarray .int, 2) := by decide +kernel
theorem dX12_init_575 : decode cX12_init 575 = .ok (.putfield 219, 3) := by decide +kernel
theorem dX12_init_578 : decode cX12_init 578 = .ok (.aload_n 0, 1) := by decide +kernel
theorem dX12_init_579 : decode cX12_init 579 = .ok (.sipush 4000, 3) := by decide +kernel
theorem dX12_init_582 : decode cX12_init 582 = .ok (.newarray .int, 2) := by decide +kernel
theorem dX12_init_584 : decode cX12_init 584 = .ok (.putfield 222, 3) := by decide +kernel
theorem dX12_init_587 : decode cX12_init 587 = .ok (.aload_n 0, 1) := by decide +kernel
theorem dX12_init_588 : decode cX12_init 588 = .ok (.sipush 4000, 3) := by decide +kernel
theorem dX12_init_591 : decode cX12_init 591 = .ok (.newarray .int, 2) := by decide +kernel
theorem dX12_init_593 : decode cX12_init 593 = .ok (.putfield 225, 3) := by decide +kernel
theorem dX12_init_596 : decode cX12_init 596 = .ok (.aload_n 0, 1) := by decide +kernel
theorem dX12_init_597 : decode cX12_init 597 = .ok (.sipush 4000, 3) := by decide +kernel
theorem dX12_init_600 : decode cX12_init 600 = .ok (.newarray .int, 2) := by decide +kernel
theorem dX12_init_602 : decode cX12_init 602 = .ok (.putfield 228, 3) := by decide +kernel
theorem dX12_init_605 : decode cX12_init 605 = .ok (.aload_n 0, 1) := by decide +kernel
theorem dX12_init_606 : decode cX12_init 606 = .ok (.sipush 600, 3) := by decide +kernel
theorem dX12_init_609 : decode cX12_init 609 = .ok (.newarray .int, 2) := by decide +kernel
theorem dX12_init_611 : decode cX12_init 611 = .ok (.putfield 231, 3) := by decide +kernel
theorem dX12_init_614 : decode cX12_init 614 = .ok (.aload_n 0, 1) := by decide +kernel
theorem dX12_init_615 : decode cX12_init 615 = .ok (.sipush 600, 3) := by decide +kernel
theorem dX12_init_618 : decode cX12_init 618 = .ok (.newarray .int, 2) := by decide +kernel
theorem dX12_init_620 : decode cX12_init 620 = .ok (.putfield 234, 3) := by decide +kernel
theorem dX12_init_623 : decode cX12_init 623 = .ok (.aload_n 0, 1) := by decide +kernel
theorem dX12_init_624 : decode cX12_init 624 = .ok (.sipush 2000, 3) := by decide +kernel
theorem dX12_init_627 : decode cX12_init 627 = .ok (.newarray .byte, 2) := by decide +kernel
theorem dX12_init_629 : decode cX12_init 629 = .ok (.putfield 237, 3) := by decide +kernel
theorem dX12_init_632 : decode cX12_init 632 = .ok (.aload_n 0, 1) := by decide +kernel
theorem dX12_init_633 : decode cX12_init 633 = .ok (.sipush 2000, 3) := by decide +kernel
theorem dX12_init_636 : decode cX12_init 636 = .ok (.newarray .int, 2) := by decide +kernel
theorem dX12_init_638 : decode cX12_init 638 = .ok (.putfield 240, 3) := by decide +kernel
theorem dX12_init_641 : decode cX12_init 641 = .ok (.aload_n 0, 1) := by decide +kernel
theorem dX12_init_642 : decode cX12_init 642 = .ok (.sipush 600, 3) := by decide +kernel
theorem dX12_init_645 : decode cX12_init 645 = .ok (.newarray .int, 2) := by decide +kernel
theorem dX12_init_647 : decode cX12_init 647 = .ok (.putfield 243, 3) := by decide +kernel
theorem dX12_init_650 : decode cX12_init 650 = .ok (.return_, 1) := by decide +kernel
def kR_127 : List (Nat × Nat × Nat × Nat) := (124, 0, 1, 125) :: kR_126
def kR_128 : List (Nat × Nat × Nat × Nat) := (124, 2, 1, 126) :: kR_127
def kI_48 : List (Nat × Nat × Nat × Int) := (124, 6, 1, -1) :: kI_47
def kR_129 : List (Nat × Nat × Nat × Nat) := (124, 10, 1, 127) :: kR_128
def kR_130 : List (Nat × Nat × Nat × Nat) := (124, 11, 1, 128) :: kR_129
def kR_131 : List (Nat × Nat × Nat × Nat) := (124, 12, 1, 129) :: kR_130
def kR_132 : List (Nat × Nat × Nat × Nat) := (124, 13, 1, 130) :: kR_131
def kR_133 : List (Nat × Nat × Nat × Nat) := (124, 14, 1, 131) :: kR_132
def kR_134 : List (Nat × Nat × Nat × Nat) := (124, 15, 1, 132) :: kR_133
def kR_135 : List (Nat × Nat × Nat × Nat) := (124, 16, 1, 133) :: kR_134
def kR_136 : List (Nat × Nat × Nat × Nat) := (124, 17, 1, 134) :: kR_135
def kR_137 : List (Nat × Nat × Nat × Nat) := (124, 18, 1, 135) :: kR_136
def kR_138 : List (Nat × Nat × Nat × Nat) := (124, 19, 1, 136) :: kR_137
def kR_139 : List (Nat × Nat × Nat × Nat) := (124, 20, 1, 137) :: kR_138
def kR_140 : List (Nat × Nat × Nat × Nat) := (124, 21, 1, 138) :: kR_139
def kR_141 : List (Nat × Nat × Nat × Nat) := (124, 22, 1, 139) :: kR_140
def kR_142 : List (Nat × Nat × Nat × Nat) := (124, 23, 1, 140) :: kR_141
def kR_143 : List (Nat × Nat × Nat × Nat) := (124, 24, 1, 141) :: kR_142
def kR_144 : List (Nat × Nat × Nat × Nat) := (124, 25, 1, 142) :: kR_143
def kR_145 : List (Nat × Nat × Nat × Nat) := (124, 26, 1, 143) :: kR_144
def kR_146 : List (Nat × Nat × Nat × Nat) := (124, 27, 1, 144) :: kR_145
def kR_147 : List (Nat × Nat × Nat × Nat) := (124, 28, 1, 145) :: kR_146
def kR_148 : List (Nat × Nat × Nat × Nat) := (124, 29, 1, 146) :: kR_147
def kR_149 : List (Nat × Nat × Nat × Nat) := (124, 30, 1, 147) :: kR_148
def kR_150 : List (Nat × Nat × Nat × Nat) := (124, 31, 1, 148) :: kR_149
def kR_151 : List (Nat × Nat × Nat × Nat) := (124, 32, 1, 149) :: kR_150
def kR_152 : List (Nat × Nat × Nat × Nat) := (124, 33, 1, 150) :: kR_151
def kR_153 : List (Nat × Nat × Nat × Nat) := (124, 34, 1, 151) :: kR_152
def kR_154 : List (Nat × Nat × Nat × Nat) := (124, 35, 1, 152) :: kR_153
def kR_155 : List (Nat × Nat × Nat × Nat) := (124, 36, 1, 153) :: kR_154
def kR_156 : List (Nat × Nat × Nat × Nat) := (124, 37, 1, 154) :: kR_155
def kR_157 : List (Nat × Nat × Nat × Nat) := (124, 38, 1, 155) :: kR_156
def kR_158 : List (Nat × Nat × Nat × Nat) := (124, 39, 1, 156) :: kR_157
def kR_159 : List (Nat × Nat × Nat × Nat) := (124, 40, 1, 157) :: kR_158
def kR_160 : List (Nat × Nat × Nat × Nat) := (124, 41, 1, 158) :: kR_159
def kR_161 : List (Nat × Nat × Nat × Nat) := (124, 42, 1, 159) :: kR_160
def kR_162 : List (Nat × Nat × Nat × Nat) := (124, 43, 1, 160) :: kR_161
def kR_163 : List (Nat × Nat × Nat × Nat) := (124, 44, 1, 161) :: kR_162
def kR_164 : List (Nat × Nat × Nat × Nat) := (124, 45, 1, 162) :: kR_163
def kR_165 : List (Nat × Nat × Nat × Nat) := (124, 46, 1, 163) :: kR_164
def kR_166 : List (Nat × Nat × Nat × Nat) := (124, 47, 1, 164) :: kR_165
def kR_167 : List (Nat × Nat × Nat × Nat) := (124, 48, 1, 165) :: kR_166
def kR_168 : List (Nat × Nat × Nat × Nat) := (124, 49, 1, 166) :: kR_167
def kR_169 : List (Nat × Nat × Nat × Nat) := (124, 50, 1, 167) :: kR_168
def kR_170 : List (Nat × Nat × Nat × Nat) := (124, 54, 1, 168) :: kR_169
def kR_171 : List (Nat × Nat × Nat × Nat) := (124, 55, 1, 169) :: kR_170
def kR_172 : List (Nat × Nat × Nat × Nat) := (124, 56, 1, 170) :: kR_171
def kR_173 : List (Nat × Nat × Nat × Nat) := (124, 57, 1, 171) :: kR_172
def kR_174 : List (Nat × Nat × Nat × Nat) := (124, 58, 1, 172) :: kR_173
def kR_175 : List (Nat × Nat × Nat × Nat) := (124, 63, 1, 173) :: kR_174
def kR_176 : List (Nat × Nat × Nat × Nat) := (124, 66, 1, 174) :: kR_175
def kR_177 : List (Nat × Nat × Nat × Nat) := (124, 67, 1, 175) :: kR_176
def kR_178 : List (Nat × Nat × Nat × Nat) := (124, 69, 1, 176) :: kR_177
def kR_179 : List (Nat × Nat × Nat × Nat) := (124, 70, 1, 177) :: kR_178
def kR_180 : List (Nat × Nat × Nat × Nat) := (124, 71, 1, 178) :: kR_179
def kR_181 : List (Nat × Nat × Nat × Nat) := (124, 72, 1, 179) :: kR_180
def kR_182 : List (Nat × Nat × Nat × Nat) := (124, 73, 1, 180) :: kR_181
def kR_183 : List (Nat × Nat × Nat × Nat) := (124, 74, 1, 181) :: kR_182
def kR_184 : List (Nat × Nat × Nat × Nat) := (124, 75, 1, 182) :: kR_183
def kR_185 : List (Nat × Nat × Nat × Nat) := (124, 76, 1, 183) :: kR_184
def kR_186 : List (Nat × Nat × Nat × Nat) := (124, 77, 1, 184) :: kR_185
def kR_187 : List (Nat × Nat × Nat × Nat) := (124, 78, 1, 185) :: kR_186
def kR_188 : List (Nat × Nat × Nat × Nat) := (124, 79, 1, 186) :: kR_187
def kR_189 : List (Nat × Nat × Nat × Nat) := (124, 80, 1, 187) :: kR_188
def kR_190 : List (Nat × Nat × Nat × Nat) := (124, 81, 1, 188) :: kR_189
def kR_191 : List (Nat × Nat × Nat × Nat) := (124, 82, 1, 189) :: kR_190
def kR_192 : List (Nat × Nat × Nat × Nat) := (124, 83, 1, 190) :: kR_191
def kR_193 : List (Nat × Nat × Nat × Nat) := (124, 88, 1, 191) :: kR_192
def kR_194 : List (Nat × Nat × Nat × Nat) := (124, 89, 1, 192) :: kR_193
def kR_195 : List (Nat × Nat × Nat × Nat) := (124, 90, 1, 193) :: kR_194
def kR_196 : List (Nat × Nat × Nat × Nat) := (124, 91, 1, 194) :: kR_195
def kR_197 : List (Nat × Nat × Nat × Nat) := (124, 92, 1, 195) :: kR_196
def kR_198 : List (Nat × Nat × Nat × Nat) := (124, 93, 1, 196) :: kR_197
def kR_199 : List (Nat × Nat × Nat × Nat) := (124, 94, 1, 197) :: kR_198
def kR_200 : List (Nat × Nat × Nat × Nat) := (124, 96, 1, 198) :: kR_199
def kR_201 : List (Nat × Nat × Nat × Nat) := (124, 97, 1, 199) :: kR_200
def kR_202 : List (Nat × Nat × Nat × Nat) := (124, 101, 1, 200) :: kR_201
theorem kc_X12_init_124_s0 {cs : Cs} {Q : Option AV → Mm → Prop} (h : wp cs mX12_init (KD.take 201) Q 113 [some (vR 124)] [] (KD.take 137, rdL 0 kI_48, rdL 0 kL_2, rdL 1000000 kR_138)) : wp cs mX12_init (KD.take 201) Q 0 [some (vR 124)] [] (KD.take 125, rdL 0 kI_47, rdL 0 kL_2, rdL 1000000 kR_126) := by
  refine wp_aload_n dX12_init_0 rfl rfl (Or.inl (by decide)) ?_
  refine wp_objInit dX12_init_1 lX12_1 oi1 oi2 (Or.inl (by decide)) (Nat.le_of_ble_eq_true rfl) (by decide) (by decide) ?_
  refine wp_aload_n dX12_init_4 rfl rfl (Or.inl (by decide)) ?_
  refine wp_sipush dX12_init_5 (by decide +kernel) (by decide) ?_
  refine kn_nB (j := 125) dX12_init_8 (by decide) (by decide +kernel) (by decide) (by decide +kernel) ?_
  refine kn_pR (N := 102) dX12_init_10 pX12_7 rfl (by decide +kernel) (by decide) (by decide) (by decide) (Or.inr ⟨_, rfl⟩) ?_
  refine wp_so (σ' := (KD.take 126, rdL 0 kI_47, rdL 0 kL_2, rdL 1000000 kR_127)) rfl ?_
  refine wp_pc (pc' := 13) rfl ?_
  refine wp_aload_n dX12_init_13 rfl rfl (Or.inl (by decide)) ?_
  refine wp_sipush dX12_init_14 (by decide +kernel) (by decide) ?_
  refine kn_nB (j := 126) dX12_init_17 (by decide) (by decide +kernel) (by decide) (by decide +kernel) ?_
  refine kn_pR (N := 102) dX12_init_19 pX12_13 rfl (by decide +kernel) (by decide) (by decide) (by decide) (Or.inr ⟨_, rfl⟩) ?_
  refine wp_so (σ' := (KD.take 127, rdL 0 kI_47, rdL 0 kL_2, rdL 1000000 kR_128)) rfl ?_
  refine wp_aload_n dX12_init_22 rfl rfl (Or.inl (by decide)) ?_
  refine wp_iconst dX12_init_23 (by decide) ?_
  refine kn_pI (N := 102) dX12_init_24 pX12_16 (by decide +kernel) (by decide) (by decide) ?_
  refine wp_so (σ' := (KD.take 127, rdL 0 kI_48, rdL 0 kL_2, rdL 1000000 kR_128)) rfl ?_
  refine wp_aload_n dX12_init_27 rfl rfl (Or.inl (by decide)) ?_
  refine wp_pc (pc' := 28) rfl ?_
  refine wp_iconst dX12_init_28 (by decide) ?_
  refine kn_nZ (j := 127) dX12_init_29 (by decide) (by decide +kernel) (by decide) (by decide +kernel) ?_
  refine kn_pR (N := 102) dX12_init_31 pX12_20 rfl (by decide +kernel) (by decide) (by decide) (by decide) (Or.inr ⟨_, rfl⟩) ?_
  refine wp_so (σ' := (KD.take 128, rdL 0 kI_48, rdL 0 kL_2, rdL 1000000 kR_129)) rfl ?_
  refine wp_aload_n dX12_init_34 rfl rfl (Or.inl (by decide)) ?_
  refine wp_sipush dX12_init_35 (by decide +kernel) (by decide) ?_
  refine kn_nB (j := 128) dX12_init_38 (by decide) (by decide +kernel) (by decide) (by decide +kernel) ?_
  refine kn_pR (N := 102) dX12_init_40 pX12_24 rfl (by decide +kernel) (by decide) (by decide) (by decide) (Or.inr ⟨_, rfl⟩) ?_
  refine wp_so (σ' := (KD.take 129, rdL 0 kI_48, rdL 0 kL_2, rdL 1000000 kR_130)) rfl ?_
  refine wp_aload_n dX12_init_43 rfl rfl (Or.inl (by decide)) ?_
  refine wp_pc (pc' := 44) rfl ?_
  refine wp_iconst dX12_init_44 (by decide) ?_
  refine kn_nI (j := 129) dX12_init_45 (by decide) (by decide +kernel) (by decide) (by decide +kernel) ?_
  refine kn_pR (N := 102) dX12_init_47 pX12_27 rfl (by decide +kernel) (by decide) (by decide) (by decide) (Or.inr ⟨_, rfl⟩) ?_
  refine wp_so (σ' := (KD.take 130, rdL 0 kI_48, rdL 0 kL_2, rdL 1000000 kR_131)) rfl ?_
  refine wp_aload_n dX12_init_50 rfl rfl (Or.inl (by decide)) ?_
  refine wp_sipush dX12_init_51 (by decide +kernel) (by decide) ?_
  refine kn_nI (j := 130) dX12_init_54 (by decide) (by decide +kernel) (by decide) (by decide +kernel) ?_
  refine kn_pR (N := 102) dX12_init_56 pX12_31 rfl (by decide +kernel) (by decide) (by decide) (by decide) (Or.inr ⟨_, rfl⟩) ?_
  refine wp_so (σ' := (KD.take 131, rdL 0 kI_48, rdL 0 kL_2, rdL 1000000 kR_132)) rfl ?_
  refine wp_aload_n dX12_init_59 rfl rfl (Or.inl (by decide)) ?_
  refine wp_pc (pc' := 60) rfl ?_
  refine wp_sipush dX12_init_60 (by decide +kernel) (by decide) ?_
  refine kn_nI (j := 131) dX12_init_63 (by decide) (by decide +kernel) (by decide) (by decide +kernel) ?_
  refine kn_pR (N := 102) dX12_init_65 pX12_34 rfl (by decide +kernel) (by decide) (by decide) (by decide) (Or.inr ⟨_, rfl⟩) ?_
  refine wp_so (σ' := (KD.take 132, rdL 0 kI_48, rdL 0 kL_2, rdL 1000000 kR_133)) rfl ?_
  refine wp_aload_n dX12_init_68 rfl rfl (Or.inl (by decide)) ?_
  refine wp_sipush dX12_init_69 (by decide +kernel) (by decide) ?_
  refine kn_nI (j := 132) dX12_init_72 (by decide) (by decide +kernel) (by decide) (by decide +kernel) ?_
  refine kn_pR (N := 102) dX12_init_74 pX12_37 rfl (by decide +kernel) (by decide) (by decide) (by decide) (Or.inr ⟨_, rfl⟩) ?_
  refine wp_so (σ' := (KD.take 133, rdL 0 kI_48, rdL 0 kL_2, rdL 1000000 kR_134)) rfl ?_
  refine wp_aload_n dX12_init_77 rfl rfl (Or.inl (by decide)) ?_
  refine wp_pc (pc' := 78) rfl ?_
  refine wp_sipush dX12_init_78 (by decide +kernel) (by decide) ?_
  refine kn_nI (j := 133) dX12_init_81 (by decide) (by decide +kernel) (by decide) (by decide +kernel) ?_
  refine kn_pR (N := 102) dX12_init_83 pX12_40 rfl (by decide +kernel) (by decide) (by decide) (by decide) (Or.inr ⟨_, rfl⟩) ?_
  refine wp_so (σ' := (KD.take 134, rdL 0 kI_48, rdL 0 kL_2, rdL 1000000 kR_135)) rfl ?_
  refine wp_aload_n dX12_init_86 rfl rfl (Or.inl (by decide)) ?_
  refine wp_sipush dX12_init_87 (by decide +kernel) (by decide) ?_
  refine kn_nI (j := 134) dX12_init_90 (by decide) (by decide +kernel) (by decide) (by decide +kernel) ?_
  refine kn_pR (N := 102) dX12_init_92 pX12_43 rfl (by decide +kernel) (by decide) (by decide) (by decide) (Or.inr ⟨_, rfl⟩) ?_
  refine wp_so (σ' := (KD.take 135, rdL 0 kI_48, rdL 0 kL_2, rdL 1000000 kR_136)) rfl ?_
  refine wp_aload_n dX12_init_95 rfl rfl (Or.inl (by decide)) ?_
  refine wp_pc (pc' := 96) rfl ?_
  refine wp_sipush dX12_init_96 (by decide +kernel) (by decide) ?_
  refine kn_nI (j := 135) dX12_init_99 (by decide) (by decide +kernel) (by decide) (by decide +kernel) ?_
  refine kn_pR (N := 102) dX12_init_101 pX12_46 rfl (by decide +kernel) (by decide) (by decide) (by decide) (Or.inr ⟨_, rfl⟩) ?_
  refine wp_so (σ' := (KD.take 136, rdL 0 kI_48, rdL 0 kL_2, rdL 1000000 kR_137)) rfl ?_
  refine wp_aload_n dX12_init_104 rfl rfl (Or.inl (by decide)) ?_
  refine wp_sipush dX12_init_105 (by decide +kernel) (by decide) ?_
  refine kn_nZ (j := 136) dX12_init_108 (by decide) (by decide +kernel) (by decide) (by decide +kernel) ?_
  refine kn_pR (N := 102) dX12_init_110 pX12_49 rfl (by decide +kernel) (by decide) (by decide) (by decide) (Or.inr ⟨_, rfl⟩) ?_
  refine wp_so (σ' := (KD.take 137, rdL 0 kI_48, rdL 0 kL_2, rdL 1000000 kR_138)) rfl ?_
  exact h
theorem kc_X12_init_124_s1 {cs : Cs} {Q : Option AV → Mm → Prop} (h : wp cs mX12_init (KD.take 201) Q 216 [some (vR 124)] [] (KD.take 150, rdL 0 kI_48, rdL 0 kL_2, rdL 1000000 kR_151)) : wp cs mX12_init (KD.take 201) Q 113 [some (vR 124)] [] (KD.take 137, rdL 0 kI_48, rdL 0 kL_2, rdL 1000000 kR_138) := by
  refine wp_aload_n dX12_init_113 rfl rfl (Or.inl (by decide)) ?_
  refine wp_sipush dX12_init_114 (by decide +kernel) (by decide) ?_
  refine kn_nZ (j := 137) dX12_init_117 (by decide) (by decide +kernel) (by decide) (by decide +kernel) ?_
  refine kn_pR (N := 102) dX12_init_119 pX12_52 rfl (by decide +kernel) (by decide) (by decide) (by decide) (Or.inr ⟨_, rfl⟩) ?_
  refine wp_so (σ' := (KD.take 138, rdL 0 kI_48, rdL 0 kL_2, rdL 1000000 kR_139)) rfl ?_
  refine wp_aload_n dX12_init_122 rfl rfl (Or.inl (by decide)) ?_
  refine wp_sipush dX12_init_123 (by decide +kernel) (by decide) ?_
  refine kn_nB (j := 138) dX12_init_126 (by decide) (by decide +kernel) (by decide) (by decide +kernel) ?_
  refine wp_pc (pc' := 128) rfl ?_
  refine kn_pR (N := 102) dX12_init_128 pX12_55 rfl (by decide +kernel) (by decide) (by decide) (by decide) (Or.inr ⟨_, rfl⟩) ?_
  refine wp_so (σ' := (KD.take 139, rdL 0 kI_48, rdL 0 kL_2, rdL 1000000 kR_140)) rfl ?_
  refine wp_aload_n dX12_init_131 rfl rfl (Or.inl (by decide)) ?_
  refine wp_iconst dX12_init_132 (by decide) ?_
  refine kn_nI (j := 139) dX12_init_133 (by decide) (by decide +kernel) (by decide) (by decide +kernel) ?_
  refine kn_pR (N := 102) dX12_init_135 pX12_58 rfl (by decide +kernel) (by decide) (by decide) (by decide) (Or.inr ⟨_, rfl⟩) ?_
  refine wp_so (σ' := (KD.take 140, rdL 0 kI_48, rdL 0 kL_2, rdL 1000000 kR_141)) rfl ?_
  refine wp_aload_n dX12_init_138 rfl rfl (Or.inl (by decide)) ?_
  refine wp_iconst dX12_init_139 (by decide) ?_
  refine kn_nI (j := 140) dX12_init_140 (by decide) (by decide +kernel) (by decide) (by decide +kernel) ?_
  refine wp_pc (pc' := 142) rfl ?_
  refine kn_pR (N := 102) dX12_init_142 pX12_61 rfl (by decide +kernel) (by decide) (by decide) (by decide) (Or.inr ⟨_, rfl⟩) ?_
  refine wp_so (σ' := (KD.take 141, rdL 0 kI_48, rdL 0 kL_2, rdL 1000000 kR_142)) rfl ?_
  refine wp_aload_n dX12_init_145 rfl rfl (Or.inl (by decide)) ?_
  refine wp_iconst dX12_init_146 (by decide) ?_
  refine kn_nI (j := 141) dX12_init_147 (by decide) (by decide +kernel) (by decide) (by decide +kernel) ?_
  refine kn_pR (N := 102) dX12_init_149 pX12_64 rfl (by decide +kernel) (by decide) (by decide) (by decide) (Or.inr ⟨_, rfl⟩) ?_
  refine wp_so (σ' := (KD.take 142, rdL 0 kI_48, rdL 0 kL_2, rdL 1000000 kR_143)) rfl ?_
  refine wp_aload_n dX12_init_152 rfl rfl (Or.inl (by decide)) ?_
  refine wp_iconst dX12_init_153 (by decide) ?_
  refine kn_nI (j := 142) dX12_init_154 (by decide) (by decide +kernel) (by decide) (by decide +kernel) ?_
  refine wp_pc (pc' := 156) rfl ?_
  refine kn_pR (N := 102) dX12_init_156 pX12_67 rfl (by decide +kernel) (by decide) (by decide) (by decide) (Or.inr ⟨_, rfl⟩) ?_
  refine wp_so (σ' := (KD.take 143, rdL 0 kI_48, rdL 0 kL_2, rdL 1000000 kR_144)) rfl ?_
  refine wp_aload_n dX12_init_159 rfl rfl (Or.inl (by decide)) ?_
  refine wp_iconst dX12_init_160 (by decide) ?_
  refine kn_nI (j := 143) dX12_init_161 (by decide) (by decide +kernel) (by decide) (by decide +kernel) ?_
  refine kn_pR (N := 102) dX12_init_163 pX12_70 rfl (by decide +kernel) (by decide) (by decide) (by decide) (Or.inr ⟨_, rfl⟩) ?_
  refine wp_so (σ' := (KD.take 144, rdL 0 kI_48, rdL 0 kL_2, rdL 1000000 kR_145)) rfl ?_
  refine wp_aload_n dX12_init_166 rfl rfl (Or.inl (by decide)) ?_
  refine wp_bipush dX12_init_167 (by decide +kernel) (by decide) ?_
  refine kn_nI (j := 144) dX12_init_169 (by decide) (by decide +kernel) (by decide) (by decide +kernel) ?_
  refine wp_pc (pc' := 171) rfl ?_
  refine kn_pR (N := 102) dX12_init_171 pX12_73 rfl (by decide +kernel) (by decide) (by decide) (by decide) (Or.inr ⟨_, rfl⟩) ?_
  refine wp_so (σ' := (KD.take 145, rdL 0 kI_48, rdL 0 kL_2, rdL 1000000 kR_146)) rfl ?_
  refine wp_aload_n dX12_init_174 rfl rfl (Or.inl (by decide)) ?_
  refine wp_bipush dX12_init_175 (by decide +kernel) (by decide) ?_
  refine kn_nI (j := 145) dX12_init_177 (by decide) (by decide +kernel) (by decide) (by decide +kernel) ?_
  refine kn_pR (N := 102) dX12_init_179 pX12_76 rfl (by decide +kernel) (by decide) (by decide) (by decide) (Or.inr ⟨_, rfl⟩) ?_
  refine wp_so (σ' := (KD.take 146, rdL 0 kI_48, rdL 0 kL_2, rdL 1000000 kR_147)) rfl ?_
  refine wp_aload_n dX12_init_182 rfl rfl (Or.inl (by decide)) ?_
  refine wp_bipush dX12_init_183 (by decide +kernel) (by decide) ?_
  refine kn_nI (j := 146) dX12_init_185 (by decide) (by decide +kernel) (by decide) (by decide +kernel) ?_
  refine wp_pc (pc' := 187) rfl ?_
  refine kn_pR (N := 102) dX12_init_187 pX12_79 rfl (by decide +kernel) (by decide) (by decide) (by decide) (Or.inr ⟨_, rfl⟩) ?_
  refine wp_so (σ' := (KD.take 147, rdL 0 kI_48, rdL 0 kL_2, rdL 1000000 kR_148)) rfl ?_
  refine wp_aload_n dX12_init_190 rfl rfl (Or.inl (by decide)) ?_
  refine wp_bipush dX12_init_191 (by decide +kernel) (by decide) ?_
  refine kn_nI (j := 147) dX12_init_193 (by decide) (by decide +kernel) (by decide) (by decide +kernel) ?_
  refine kn_pR (N := 102) dX12_init_195 pX12_82 rfl (by decide +kernel) (by decide) (by decide) (by decide) (Or.inr ⟨_, rfl⟩) ?_
  refine wp_so (σ' := (KD.take 148, rdL 0 kI_48, rdL 0 kL_2, rdL 1000000 kR_149)) rfl ?_
  refine wp_aload_n dX12_init_198 rfl rfl (Or.inl (by decide)) ?_
  refine wp_sipush dX12_init_199 (by decide +kernel) (by decide) ?_
  refine kn_nI (j := 148) dX12_init_202 (by decide) (by decide +kernel) (by decide) (by decide +kernel) ?_
  refine wp_pc (pc' := 204) rfl ?_
  refine kn_pR (N := 102) dX12_init_204 pX12_85 rfl (by decide +kernel) (by decide) (by decide) (by decide) (Or.inr ⟨_, rfl⟩) ?_
  refine wp_so (σ' := (KD.take 149, rdL 0 kI_48, rdL 0 kL_2, rdL 1000000 kR_150)) rfl ?_
  refine wp_aload_n dX12_init_207 rfl rfl (Or.inl (by decide)) ?_
  refine wp_sipush dX12_init_208 (by decide +kernel) (by decide) ?_
  refine kn_nI (j := 149) dX12_init_211 (by decide) (by decide +kernel) (by decide) (by decide +kernel) ?_
  refine kn_pR (N := 102) dX12_init_213 pX12_88 rfl (by decide +kernel) (by decide) (by decide) (by decide) (Or.inr ⟨_, rfl⟩) ?_
  refine wp_so (σ' := (KD.take 150, rdL 0 kI_48, rdL 0 kL_2, rdL 1000000 kR_151)) rfl ?_
  exact h
theorem kc_X12_init_124_s2 {cs : Cs} {Q : Option AV → Mm → Prop} (h : wp cs mX12_init (KD.take 201) Q 328 [some (vR 124)] [] (KD.take 163, rdL 0 kI_48, rdL 0 kL_2, rdL 1000000 kR_164)) : wp cs mX12_init (KD.take 201) Q 216 [some (vR 124)] [] (KD.take 150, rdL 0 kI_48, rdL 0 kL_2, rdL 1000000 kR_151) := by
  refine wp_aload_n dX12_init_216 rfl rfl (Or.inl (by decide)) ?_
  refine wp_bipush dX12_init_217 (by decide +kernel) (by decide) ?_
  refine kn_nJ (j := 150) dX12_init_219 (by decide) (by decide +kernel) (by decide) (by decide +kernel) ?_
  refine kn_pR (N := 102) dX12_init_221 pX12_91 rfl (by decide +kernel) (by decide) (by decide) (by decide) (Or.inr ⟨_, rfl⟩) ?_
  refine wp_so (σ' := (KD.take 151, rdL 0 kI_48, rdL 0 kL_2, rdL 1000000 kR_152)) rfl ?_
  refine wp_aload_n dX12_init_224 rfl rfl (Or.inl (by decide)) ?_
  refine wp_bipush dX12_init_225 (by decide +kernel) (by decide) ?_
  refine kn_nJ (j := 151) dX12_init_227 (by decide) (by decide +kernel) (by decide) (by decide +kernel) ?_
  refine wp_pc (pc' := 229) rfl ?_
  refine kn_pR (N := 102) dX12_init_229 pX12_95 rfl (by decide +kernel) (by decide) (by decide) (by decide) (Or.inr ⟨_, rfl⟩) ?_
  refine wp_so (σ' := (KD.take 152, rdL 0 kI_48, rdL 0 kL_2, rdL 1000000 kR_153)) rfl ?_
  refine wp_aload_n dX12_init_232 rfl rfl (Or.inl (by decide)) ?_
  refine wp_bipush dX12_init_233 (by decide +kernel) (by decide) ?_
  refine kn_nZ (j := 152) dX12_init_235 (by decide) (by decide +kernel) (by decide) (by decide +kernel) ?_
  refine kn_pR (N := 102) dX12_init_237 pX12_98 rfl (by decide +kernel) (by decide) (by decide) (by decide) (Or.inr ⟨_, rfl⟩) ?_
  refine wp_so (σ' := (KD.take 153, rdL 0 kI_48, rdL 0 kL_2, rdL 1000000 kR_154)) rfl ?_
  refine wp_aload_n dX12_init_240 rfl rfl (Or.inl (by decide)) ?_
  refine wp_sipush dX12_init_241 (by decide +kernel) (by decide) ?_
  refine kn_nJ (j := 153) dX12_init_244 (by decide) (by decide +kernel) (by decide) (by decide +kernel) ?_
  refine wp_pc (pc' := 246) rfl ?_
  refine kn_pR (N := 102) dX12_init_246 pX12_101 rfl (by decide +kernel) (by decide) (by decide) (by decide) (Or.inr ⟨_, rfl⟩) ?_
  refine wp_so (σ' := (KD.take 154, rdL 0 kI_48, rdL 0 kL_2, rdL 1000000 kR_155)) rfl ?_
  refine wp_aload_n dX12_init_249 rfl rfl (Or.inl (by decide)) ?_
  refine wp_iconst dX12_init_250 (by decide) ?_
  refine kn_nI (j := 154) dX12_init_251 (by decide) (by decide +kernel) (by decide) (by decide +kernel) ?_
  refine kn_pR (N := 102) dX12_init_253 pX12_104 rfl (by decide +kernel) (by decide) (by decide) (by decide) (Or.inr ⟨_, rfl⟩) ?_
  refine wp_so (σ' := (KD.take 155, rdL 0 kI_48, rdL 0 kL_2, rdL 1000000 kR_156)) rfl ?_
  refine wp_aload_n dX12_init_256 rfl rfl (Or.inl (by decide)) ?_
  refine wp_sipush dX12_init_257 (by decide +kernel) (by decide) ?_
  refine kn_nI (j := 155) dX12_init_260 (by decide) (by decide +kernel) (by decide) (by decide +kernel) ?_
  refine wp_pc (pc' := 262) rfl ?_
  refine kn_pR (N := 102) dX12_init_262 pX12_107 rfl (by decide +kernel) (by decide) (by decide) (by decide) (Or.inr ⟨_, rfl⟩) ?_
  refine wp_so (σ' := (KD.take 156, rdL 0 kI_48, rdL 0 kL_2, rdL 1000000 kR_157)) rfl ?_
  refine wp_aload_n dX12_init_265 rfl rfl (Or.inl (by decide)) ?_
  refine wp_sipush dX12_init_266 (by decide +kernel) (by decide) ?_
  refine kn_nI (j := 156) dX12_init_269 (by decide) (by decide +kernel) (by decide) (by decide +kernel) ?_
  refine kn_pR (N := 102) dX12_init_271 pX12_110 rfl (by decide +kernel) (by decide) (by decide) (by decide) (Or.inr ⟨_, rfl⟩) ?_
  refine wp_so (σ' := (KD.take 157, rdL 0 kI_48, rdL 0 kL_2, rdL 1000000 kR_158)) rfl ?_
  refine wp_aload_n dX12_init_274 rfl rfl (Or.inl (by decide)) ?_
  refine wp_sipush dX12_init_275 (by decide +kernel) (by decide) ?_
  refine kn_nI (j := 157) dX12_init_278 (by decide) (by decide +kernel) (by decide) (by decide +kernel) ?_
  refine wp_pc (pc' := 280) rfl ?_
  refine kn_pR (N := 102) dX12_init_280 pX12_113 rfl (by decide +kernel) (by decide) (by decide) (by decide) (Or.inr ⟨_, rfl⟩) ?_
  refine wp_so (σ' := (KD.take 158, rdL 0 kI_48, rdL 0 kL_2, rdL 1000000 kR_159)) rfl ?_
  refine wp_aload_n dX12_init_283 rfl rfl (Or.inl (by decide)) ?_
  refine wp_sipush dX12_init_284 (by decide +kernel) (by decide) ?_
  refine kn_nI (j := 158) dX12_init_287 (by decide) (by decide +kernel) (by decide) (by decide +kernel) ?_
  refine kn_pR (N := 102) dX12_init_289 pX12_116 rfl (by decide +kernel) (by decide) (by decide) (by decide) (Or.inr ⟨_, rfl⟩) ?_
  refine wp_so (σ' := (KD.take 159, rdL 0 kI_48, rdL 0 kL_2, rdL 1000000 kR_160)) rfl ?_
  refine wp_aload_n dX12_init_292 rfl rfl (Or.inl (by decide)) ?_
  refine wp_sipush dX12_init_293 (by decide +kernel) (by decide) ?_
  refine kn_nI (j := 159) dX12_init_296 (by decide) (by decide +kernel) (by decide) (by decide +kernel) ?_
  refine wp_pc (pc' := 298) rfl ?_
  refine kn_pR (N := 102) dX12_init_298 pX12_119 rfl (by decide +kernel) (by decide) (by decide) (by decide) (Or.inr ⟨_, rfl⟩) ?_
  refine wp_so (σ' := (KD.take 160, rdL 0 kI_48, rdL 0 kL_2, rdL 1000000 kR_161)) rfl ?_
  refine wp_aload_n dX12_init_301 rfl rfl (Or.inl (by decide)) ?_
  refine wp_sipush dX12_init_302 (by decide +kernel) (by decide) ?_
  refine kn_nI (j := 160) dX12_init_305 (by decide) (by decide +kernel) (by decide) (by decide +kernel) ?_
  refine kn_pR (N := 102) dX12_init_307 pX12_122 rfl (by decide +kernel) (by decide) (by decide) (by decide) (Or.inr ⟨_, rfl⟩) ?_
  refine wp_so (σ' := (KD.take 161, rdL 0 kI_48, rdL 0 kL_2, rdL 1000000 kR_162)) rfl ?_
  refine wp_aload_n dX12_init_310 rfl rfl (Or.inl (by decide)) ?_
  refine wp_sipush dX12_init_311 (by decide +kernel) (by decide) ?_
  refine kn_nI (j := 161) dX12_init_314 (by decide) (by decide +kernel) (by decide) (by decide +kernel) ?_
  refine wp_pc (pc' := 316) rfl ?_
  refine kn_pR (N := 102) dX12_init_316 pX12_125 rfl (by decide +kernel) (by decide) (by decide) (by decide) (Or.inr ⟨_, rfl⟩) ?_
  refine wp_so (σ' := (KD.take 162, rdL 0 kI_48, rdL 0 kL_2, rdL 1000000 kR_163)) rfl ?_
  refine wp_aload_n dX12_init_319 rfl rfl (Or.inl (by decide)) ?_
  refine wp_sipush dX12_init_320 (by decide +kernel) (by decide) ?_
  refine kn_nI (j := 162) dX12_init_323 (by decide) (by decide +kernel) (by decide) (by decide +kernel) ?_
  refine kn_pR (N := 102) dX12_init_325 pX12_128 rfl (by decide +kernel) (by decide) (by decide) (by decide) (Or.inr ⟨_, rfl⟩) ?_
  refine wp_so (σ' := (KD.take 163, rdL 0 kI_48, rdL 0 kL_2, rdL 1000000 kR_164)) rfl ?_
  exact h
theorem kc_X12_init_124_s3 {cs : Cs} {Q : Option AV → Mm → Prop} (h : wp cs mX12_init (KD.take 201) Q 437 [some (vR 124)] [] (KD.take 176, rdL 0 kI_48, rdL 0 kL_2, rdL 1000000 kR_177)) : wp cs mX12_init (KD.take 201) Q 328 [some (vR 124)] [] (KD.take 163, rdL 0 kI_48, rdL 0 kL_2, rdL 1000000 kR_164) := by
  refine wp_aload_n dX12_init_328 rfl rfl (Or.inl (by decide)) ?_
  refine wp_sipush dX12_init_329 (by decide +kernel) (by decide) ?_
  refine kn_nI (j := 163) dX12_init_332 (by decide) (by decide +kernel) (by decide) (by decide +kernel) ?_
  refine kn_pR (N := 102) dX12_init_334 pX12_131 rfl (by decide +kernel) (by decide) (by decide) (by decide) (Or.inr ⟨_, rfl⟩) ?_
  refine wp_so (σ' := (KD.take 164, rdL 0 kI_48, rdL 0 kL_2, rdL 1000000 kR_165)) rfl ?_
  refine wp_aload_n dX12_init_337 rfl rfl (Or.inl (by decide)) ?_
  refine wp_sipush dX12_init_338 (by decide +kernel) (by decide) ?_
  refine kn_nI (j := 164) dX12_init_341 (by decide) (by decide +kernel) (by decide) (by decide +kernel) ?_
  refine wp_pc (pc' := 343) rfl ?_
  refine kn_pR (N := 102) dX12_init_343 pX12_134 rfl (by decide +kernel) (by decide) (by decide) (by decide) (Or.inr ⟨_, rfl⟩) ?_
  refine wp_so (σ' := (KD.take 165, rdL 0 kI_48, rdL 0 kL_2, rdL 1000000 kR_166)) rfl ?_
  refine wp_aload_n dX12_init_346 rfl rfl (Or.inl (by decide)) ?_
  refine wp_sipush dX12_init_347 (by decide +kernel) (by decide) ?_
  refine kn_nI (j := 165) dX12_init_350 (by decide) (by decide +kernel) (by decide) (by decide +kernel) ?_
  refine kn_pR (N := 102) dX12_init_352 pX12_137 rfl (by decide +kernel) (by decide) (by decide) (by decide) (Or.inr ⟨_, rfl⟩) ?_
  refine wp_so (σ' := (KD.take 166, rdL 0 kI_48, rdL 0 kL_2, rdL 1000000 kR_167)) rfl ?_
  refine wp_aload_n dX12_init_355 rfl rfl (Or.inl (by decide)) ?_
  refine wp_sipush dX12_init_356 (by decide +kernel) (by decide) ?_
  refine kn_nI (j := 166) dX12_init_359 (by decide) (by decide +kernel) (by decide) (by decide +kernel) ?_
  refine wp_pc (pc' := 361) rfl ?_
  refine kn_pR (N := 102) dX12_init_361 pX12_140 rfl (by decide +kernel) (by decide) (by decide) (by decide) (Or.inr ⟨_, rfl⟩) ?_
  refine wp_so (σ' := (KD.take 167, rdL 0 kI_48, rdL 0 kL_2, rdL 1000000 kR_168)) rfl ?_
  refine wp_aload_n dX12_init_364 rfl rfl (Or.inl (by decide)) ?_
  refine wp_iconst dX12_init_365 (by decide) ?_
  refine kn_nI (j := 167) dX12_init_366 (by decide) (by decide +kernel) (by decide) (by decide +kernel) ?_
  refine kn_pR (N := 102) dX12_init_368 pX12_143 rfl (by decide +kernel) (by decide) (by decide) (by decide) (Or.inr ⟨_, rfl⟩) ?_
  refine wp_so (σ' := (KD.take 168, rdL 0 kI_48, rdL 0 kL_2, rdL 1000000 kR_169)) rfl ?_
  refine wp_aload_n dX12_init_371 rfl rfl (Or.inl (by decide)) ?_
  refine wp_bipush dX12_init_372 (by decide +kernel) (by decide) ?_
  refine kn_nI (j := 168) dX12_init_374 (by decide) (by decide +kernel) (by decide) (by decide +kernel) ?_
  refine wp_pc (pc' := 376) rfl ?_
  refine kn_pR (N := 102) dX12_init_376 pX12_146 rfl (by decide +kernel) (by decide) (by decide) (by decide) (Or.inr ⟨_, rfl⟩) ?_
  refine wp_so (σ' := (KD.take 169, rdL 0 kI_48, rdL 0 kL_2, rdL 1000000 kR_170)) rfl ?_
  refine wp_aload_n dX12_init_379 rfl rfl (Or.inl (by decide)) ?_
  refine wp_bipush dX12_init_380 (by decide +kernel) (by decide) ?_
  refine kn_nZ (j := 169) dX12_init_382 (by decide) (by decide +kernel) (by decide) (by decide +kernel) ?_
  refine kn_pR (N := 102) dX12_init_384 pX12_149 rfl (by decide +kernel) (by decide) (by decide) (by decide) (Or.inr ⟨_, rfl⟩) ?_
  refine wp_so (σ' := (KD.take 170, rdL 0 kI_48, rdL 0 kL_2, rdL 1000000 kR_171)) rfl ?_
  refine wp_aload_n dX12_init_387 rfl rfl (Or.inl (by decide)) ?_
  refine wp_bipush dX12_init_388 (by decide +kernel) (by decide) ?_
  refine kn_nZ (j := 170) dX12_init_390 (by decide) (by decide +kernel) (by decide) (by decide +kernel) ?_
  refine wp_pc (pc' := 392) rfl ?_
  refine kn_pR (N := 102) dX12_init_392 pX12_152 rfl (by decide +kernel) (by decide) (by decide) (by decide) (Or.inr ⟨_, rfl⟩) ?_
  refine wp_so (σ' := (KD.take 171, rdL 0 kI_48, rdL 0 kL_2, rdL 1000000 kR_172)) rfl ?_
  refine wp_aload_n dX12_init_395 rfl rfl (Or.inl (by decide)) ?_
  refine wp_bipush dX12_init_396 (by decide +kernel) (by decide) ?_
  refine kn_nJ (j := 171) dX12_init_398 (by decide) (by decide +kernel) (by decide) (by decide +kernel) ?_
  refine kn_pR (N := 102) dX12_init_400 pX12_155 rfl (by decide +kernel) (by decide) (by decide) (by decide) (Or.inr ⟨_, rfl⟩) ?_
  refine wp_so (σ' := (KD.take 172, rdL 0 kI_48, rdL 0 kL_2, rdL 1000000 kR_173)) rfl ?_
  refine wp_aload_n dX12_init_403 rfl rfl (Or.inl (by decide)) ?_
  refine wp_bipush dX12_init_404 (by decide +kernel) (by decide) ?_
  refine kn_nJ (j := 172) dX12_init_406 (by decide) (by decide +kernel) (by decide) (by decide +kernel) ?_
  refine wp_pc (pc' := 408) rfl ?_
  refine kn_pR (N := 102) dX12_init_408 pX12_158 rfl (by decide +kernel) (by decide) (by decide) (by decide) (Or.inr ⟨_, rfl⟩) ?_
  refine wp_so (σ' := (KD.take 173, rdL 0 kI_48, rdL 0 kL_2, rdL 1000000 kR_174)) rfl ?_
  refine wp_aload_n dX12_init_411 rfl rfl (Or.inl (by decide)) ?_
  refine wp_bipush dX12_init_412 (by decide +kernel) (by decide) ?_
  refine kn_nI (j := 173) dX12_init_414 (by decide) (by decide +kernel) (by decide) (by decide +kernel) ?_
  refine kn_pR (N := 102) dX12_init_416 pX12_161 rfl (by decide +kernel) (by decide) (by decide) (by decide) (Or.inr ⟨_, rfl⟩) ?_
  refine wp_so (σ' := (KD.take 174, rdL 0 kI_48, rdL 0 kL_2, rdL 1000000 kR_175)) rfl ?_
  refine wp_aload_n dX12_init_419 rfl rfl (Or.inl (by decide)) ?_
  refine wp_sipush dX12_init_420 (by decide +kernel) (by decide) ?_
  refine kn_nI (j := 174) dX12_init_423 (by decide) (by decide +kernel) (by decide) (by decide +kernel) ?_
  refine wp_pc (pc' := 425) rfl ?_
  refine kn_pR (N := 102) dX12_init_425 pX12_164 rfl (by decide +kernel) (by decide) (by decide) (by decide) (Or.inr ⟨_, rfl⟩) ?_
  refine wp_so (σ' := (KD.take 175, rdL 0 kI_48, rdL 0 kL_2, rdL 1000000 kR_176)) rfl ?_
  refine wp_aload_n dX12_init_428 rfl rfl (Or.inl (by decide)) ?_
  refine wp_sipush dX12_init_429 (by decide +kernel) (by decide) ?_
  refine kn_nI (j := 175) dX12_init_432 (by decide) (by decide +kernel) (by decide) (by decide +kernel) ?_
  refine kn_pR (N := 102) dX12_init_434 pX12_167 rfl (by decide +kernel) (by decide) (by decide) (by decide) (Or.inr ⟨_, rfl⟩) ?_
  refine wp_so (σ' := (KD.take 176, rdL 0 kI_48, rdL 0 kL_2, rdL 1000000 kR_177)) rfl ?_
  exact h
theorem kc_X12_init_124_s4 {cs : Cs} {Q : Option AV → Mm → Prop} (h : wp cs mX12_init (KD.take 201) Q 545 [some (vR 124)] [] (KD.take 189, rdL 0 kI_48, rdL 0 kL_2, rdL 1000000 kR_190)) : wp cs mX12_init (KD.take 201) Q 437 [some (vR 124)] [] (KD.take 176, rdL 0 kI_48, rdL 0 kL_2, rdL 1000000 kR_177) := by
  refine wp_aload_n dX12_init_437 rfl rfl (Or.inl (by decide)) ?_
  refine wp_sipush dX12_init_438 (by decide +kernel) (by decide) ?_
  refine kn_nI (j := 176) dX12_init_441 (by decide) (by decide +kernel) (by decide) (by decide +kernel) ?_
  refine kn_pR (N := 102) dX12_init_443 pX12_170 rfl (by decide +kernel) (by decide) (by decide) (by decide) (Or.inr ⟨_, rfl⟩) ?_
  refine wp_so (σ' := (KD.take 177, rdL 0 kI_48, rdL 0 kL_2, rdL 1000000 kR_178)) rfl ?_
  refine wp_aload_n dX12_init_446 rfl rfl (Or.inl (by decide)) ?_
  refine wp_sipush dX12_init_447 (by decide +kernel) (by decide) ?_
  refine kn_nZ (j := 177) dX12_init_450 (by decide) (by decide +kernel) (by decide) (by decide +kernel) ?_
  refine wp_pc (pc' := 452) rfl ?_
  refine kn_pR (N := 102) dX12_init_452 pX12_173 rfl (by decide +kernel) (by decide) (by decide) (by decide) (Or.inr ⟨_, rfl⟩) ?_
  refine wp_so (σ' := (KD.take 178, rdL 0 kI_48, rdL 0 kL_2, rdL 1000000 kR_179)) rfl ?_
  refine wp_aload_n dX12_init_455 rfl rfl (Or.inl (by decide)) ?_
  refine wp_sipush dX12_init_456 (by decide +kernel) (by decide) ?_
  refine kn_nZ (j := 178) dX12_init_459 (by decide) (by decide +kernel) (by decide) (by decide +kernel) ?_
  refine kn_pR (N := 102) dX12_init_461 pX12_176 rfl (by decide +kernel) (by decide) (by decide) (by decide) (Or.inr ⟨_, rfl⟩) ?_
  refine wp_so (σ' := (KD.take 179, rdL 0 kI_48, rdL 0 kL_2, rdL 1000000 kR_180)) rfl ?_
  refine wp_aload_n dX12_init_464 rfl rfl (Or.inl (by decide)) ?_
  refine wp_sipush dX12_init_465 (by decide +kernel) (by decide) ?_
  refine kn_nZ (j := 179) dX12_init_468 (by decide) (by decide +kernel) (by decide) (by decide +kernel) ?_
  refine wp_pc (pc' := 470) rfl ?_
  refine kn_pR (N := 102) dX12_init_470 pX12_179 rfl (by decide +kernel) (by decide) (by decide) (by decide) (Or.inr ⟨_, rfl⟩) ?_
  refine wp_so (σ' := (KD.take 180, rdL 0 kI_48, rdL 0 kL_2, rdL 1000000 kR_181)) rfl ?_
  refine wp_aload_n dX12_init_473 rfl rfl (Or.inl (by decide)) ?_
  refine wp_bipush dX12_init_474 (by decide +kernel) (by decide) ?_
  refine kn_nI (j := 180) dX12_init_476 (by decide) (by decide +kernel) (by decide) (by decide +kernel) ?_
  refine kn_pR (N := 102) dX12_init_478 pX12_182 rfl (by decide +kernel) (by decide) (by decide) (by decide) (Or.inr ⟨_, rfl⟩) ?_
  refine wp_so (σ' := (KD.take 181, rdL 0 kI_48, rdL 0 kL_2, rdL 1000000 kR_182)) rfl ?_
  refine wp_aload_n dX12_init_481 rfl rfl (Or.inl (by decide)) ?_
  refine wp_bipush dX12_init_482 (by decide +kernel) (by decide) ?_
  refine kn_nZ (j := 181) dX12_init_484 (by decide) (by decide +kernel) (by decide) (by decide +kernel) ?_
  refine wp_pc (pc' := 486) rfl ?_
  refine kn_pR (N := 102) dX12_init_486 pX12_185 rfl (by decide +kernel) (by decide) (by decide) (by decide) (Or.inr ⟨_, rfl⟩) ?_
  refine wp_so (σ' := (KD.take 182, rdL 0 kI_48, rdL 0 kL_2, rdL 1000000 kR_183)) rfl ?_
  refine wp_aload_n dX12_init_489 rfl rfl (Or.inl (by decide)) ?_
  refine wp_bipush dX12_init_490 (by decide +kernel) (by decide) ?_
  refine kn_nI (j := 182) dX12_init_492 (by decide) (by decide +kernel) (by decide) (by decide +kernel) ?_
  refine kn_pR (N := 102) dX12_init_494 pX12_188 rfl (by decide +kernel) (by decide) (by decide) (by decide) (Or.inr ⟨_, rfl⟩) ?_
  refine wp_so (σ' := (KD.take 183, rdL 0 kI_48, rdL 0 kL_2, rdL 1000000 kR_184)) rfl ?_
  refine wp_aload_n dX12_init_497 rfl rfl (Or.inl (by decide)) ?_
  refine wp_bipush dX12_init_498 (by decide +kernel) (by decide) ?_
  refine kn_nI (j := 183) dX12_init_500 (by decide) (by decide +kernel) (by decide) (by decide +kernel) ?_
  refine wp_pc (pc' := 502) rfl ?_
  refine kn_pR (N := 102) dX12_init_502 pX12_191 rfl (by decide +kernel) (by decide) (by decide) (by decide) (Or.inr ⟨_, rfl⟩) ?_
  refine wp_so (σ' := (KD.take 184, rdL 0 kI_48, rdL 0 kL_2, rdL 1000000 kR_185)) rfl ?_
  refine wp_aload_n dX12_init_505 rfl rfl (Or.inl (by decide)) ?_
  refine wp_bipush dX12_init_506 (by decide +kernel) (by decide) ?_
  refine kn_nI (j := 184) dX12_init_508 (by decide) (by decide +kernel) (by decide) (by decide +kernel) ?_
  refine kn_pR (N := 102) dX12_init_510 pX12_194 rfl (by decide +kernel) (by decide) (by decide) (by decide) (Or.inr ⟨_, rfl⟩) ?_
  refine wp_so (σ' := (KD.take 185, rdL 0 kI_48, rdL 0 kL_2, rdL 1000000 kR_186)) rfl ?_
  refine wp_aload_n dX12_init_513 rfl rfl (Or.inl (by decide)) ?_
  refine wp_bipush dX12_init_514 (by decide +kernel) (by decide) ?_
  refine kn_nI (j := 185) dX12_init_516 (by decide) (by decide +kernel) (by decide) (by decide +kernel) ?_
  refine wp_pc (pc' := 518) rfl ?_
  refine kn_pR (N := 102) dX12_init_518 pX12_197 rfl (by decide +kernel) (by decide) (by decide) (by decide) (Or.inr ⟨_, rfl⟩) ?_
  refine wp_so (σ' := (KD.take 186, rdL 0 kI_48, rdL 0 kL_2, rdL 1000000 kR_187)) rfl ?_
  refine wp_aload_n dX12_init_521 rfl rfl (Or.inl (by decide)) ?_
  refine wp_bipush dX12_init_522 (by decide +kernel) (by decide) ?_
  refine kn_nI (j := 186) dX12_init_524 (by decide) (by decide +kernel) (by decide) (by decide +kernel) ?_
  refine kn_pR (N := 102) dX12_init_526 pX12_200 rfl (by decide +kernel) (by decide) (by decide) (by decide) (Or.inr ⟨_, rfl⟩) ?_
  refine wp_so (σ' := (KD.take 187, rdL 0 kI_48, rdL 0 kL_2, rdL 1000000 kR_188)) rfl ?_
  refine wp_aload_n dX12_init_529 rfl rfl (Or.inl (by decide)) ?_
  refine wp_bipush dX12_init_530 (by decide +kernel) (by decide) ?_
  refine kn_nI (j := 187) dX12_init_532 (by decide) (by decide +kernel) (by decide) (by decide +kernel) ?_
  refine wp_pc (pc' := 534) rfl ?_
  refine kn_pR (N := 102) dX12_init_534 pX12_203 rfl (by decide +kernel) (by decide) (by decide) (by decide) (Or.inr ⟨_, rfl⟩) ?_
  refine wp_so (σ' := (KD.take 188, rdL 0 kI_48, rdL 0 kL_2, rdL 1000000 kR_189)) rfl ?_
  refine wp_aload_n dX12_init_537 rfl rfl (Or.inl (by decide)) ?_
  refine wp_bipush dX12_init_538 (by decide +kernel) (by decide) ?_
  refine kn_nZ (j := 188) dX12_init_540 (by decide) (by decide +kernel) (by decide) (by decide +kernel) ?_
  refine kn_pR (N := 102) dX12_init_542 pX12_206 rfl (by decide +kernel) (by decide) (by decide) (by decide) (Or.inr ⟨_, rfl⟩) ?_
  refine wp_so (σ' := (KD.take 189, rdL 0 kI_48, rdL 0 kL_2, rdL 1000000 kR_190)) rfl ?_
  exact h
theorem kc_X12_init_124_s5 {cs : Cs} {Q : Option AV → Mm → Prop} (hQ : Q none (rdL 0 kI_48, rdL 0 kL_2, rdL 1000000 kR_202)) : wp cs mX12_init (KD.take 201) Q 545 [some (vR 124)] [] (KD.take 189, rdL 0 kI_48, rdL 0 kL_2, rdL 1000000 kR_190) := by
  refine wp_aload_n dX12_init_545 rfl rfl (Or.inl (by decide)) ?_
  refine wp_bipush dX12_init_546 (by decide +kernel) (by decide) ?_
  refine kn_nI (j := 189) dX12_init_548 (by decide) (by decide +kernel) (by decide) (by decide +kernel) ?_
  refine kn_pR (N := 102) dX12_init_550 pX12_209 rfl (by decide +kernel) (by decide) (by decide) (by decide) (Or.inr ⟨_, rfl⟩) ?_
  refine wp_so (σ' := (KD.take 190, rdL 0 kI_48, rdL 0 kL_2, rdL 1000000 kR_191)) rfl ?_
  refine wp_aload_n dX12_init_553 rfl rfl (Or.inl (by decide)) ?_
  refine wp_bipush dX12_init_554 (by decide +kernel) (by decide) ?_
  refine kn_nI (j := 190) dX12_init_556 (by decide) (by decide +kernel) (by decide) (by decide +kernel) ?_
  refine wp_pc (pc' := 558) rfl ?_
  refine kn_pR (N := 102) dX12_init_558 pX12_212 rfl (by decide +kernel) (by decide) (by decide) (by decide) (Or.inr ⟨_, rfl⟩) ?_
  refine wp_so (σ' := (KD.take 191, rdL 0 kI_48, rdL 0 kL_2, rdL 1000000 kR_192)) rfl ?_
  refine wp_aload_n dX12_init_561 rfl rfl (Or.inl (by decide)) ?_
  refine wp_ldc dX12_init_562 cX12_215 (by decide) ?_
  refine kn_nB (j := 191) dX12_init_564 (by decide) (by decide +kernel) (by decide) (by decide +kernel) ?_
  refine kn_pR (N := 102) dX12_init_566 pX12_216 rfl (by decide +kernel) (by decide) (by decide) (by decide) (Or.inr ⟨_, rfl⟩) ?_
  refine wp_so (σ' := (KD.take 192, rdL 0 kI_48, rdL 0 kL_2, rdL 1000000 kR_193)) rfl ?_
  refine wp_aload_n dX12_init_569 rfl rfl (Or.inl (by decide)) ?_
  refine wp_sipush dX12_init_570 (by decide +kernel) (by decide) ?_
  refine kn_nI (j := 192) dX12_init_573 (by decide) (by decide +kernel) (by decide) (by decide +kernel) ?_
  refine wp_pc (pc' := 575) rfl ?_
  refine kn_pR (N := 102) dX12_init_575 pX12_219 rfl (by decide +kernel) (by decide) (by decide) (by decide) (Or.inr ⟨_, rfl⟩) ?_
  refine wp_so (σ' := (KD.take 193, rdL 0 kI_48, rdL 0 kL_2, rdL 1000000 kR_194)) rfl ?_
  refine wp_aload_n dX12_init_578 rfl rfl (Or.inl (by decide)) ?_
  refine wp_sipush dX12_init_579 (by decide +kernel) (by decide) ?_
  refine kn_nI (j := 193) dX12_init_582 (by decide) (by decide +kernel) (by decide) (by decide +kernel) ?_
  refine kn_pR (N := 102) dX12_init_584 pX12_222 rfl (by decide +kernel) (by decide) (by decide) (by decide) (Or.inr ⟨_, rfl⟩) ?_
  refine wp_so (σ' := (KD.take 194, rdL 0 kI_48, rdL 0 kL_2, rdL 1000000 kR_195)) rfl ?_
  refine wp_aload_n dX12_init_587 rfl rfl (Or.inl (by decide)) ?_
  refine wp_sipush dX12_init_588 (by decide +kernel) (by decide) ?_
  refine kn_nI (j := 194) dX12_init_591 (by decide) (by decide +kernel) (by decide) (by decide +kernel) ?_
  refine wp_pc (pc' := 593) rfl ?_
  refine kn_pR (N := 102) dX12_init_593 pX12_225 rfl (by decide +kernel) (by decide) (by decide) (by decide) (Or.inr ⟨_, rfl⟩) ?_
  refine wp_so (σ' := (KD.take 195, rdL 0 kI_48, rdL 0 kL_2, rdL 1000000 kR_196)) rfl ?_
  refine wp_aload_n dX12_init_596 rfl rfl (Or.inl (by decide)) ?_
  refine wp_sipush dX12_init_597 (by decide +kernel) (by decide) ?_
  refine kn_nI (j := 195) dX12_init_600 (by decide) (by decide +kernel) (by decide) (by decide +kernel) ?_
  refine kn_pR (N := 102) dX12_init_602 pX12_228 rfl (by decide +kernel) (by decide) (by decide) (by decide) (Or.inr ⟨_, rfl⟩) ?_
  refine wp_so (σ' := (KD.take 196, rdL 0 kI_48, rdL 0 kL_2, rdL 1000000 kR_197)) rfl ?_
  refine wp_aload_n dX12_init_605 rfl rfl (Or.inl (by decide)) ?_
  refine wp_sipush dX12_init_606 (by decide +kernel) (by decide) ?_
  refine kn_nI (j := 196) dX12_init_609 (by decide) (by decide +kernel) (by decide) (by decide +kernel) ?_
  refine wp_pc (pc' := 611) rfl ?_
  refine kn_pR (N := 102) dX12_init_611 pX12_231 rfl (by decide +kernel) (by decide) (by decide) (by decide) (Or.inr ⟨_, rfl⟩) ?_
  refine wp_so (σ' := (KD.take 197, rdL 0 kI_48, rdL 0 kL_2, rdL 1000000 kR_198)) rfl ?_
  refine wp_aload_n dX12_init_614 rfl rfl (Or.inl (by decide)) ?_
  refine wp_sipush dX12_init_615 (by decide +kernel) (by decide) ?_
  refine kn_nI (j := 197) dX12_init_618 (by decide) (by decide +kernel) (by decide) (by decide +kernel) ?_
  refine kn_pR (N := 102) dX12_init_620 pX12_234 rfl (by decide +kernel) (by decide) (by decide) (by decide) (Or.inr ⟨_, rfl⟩) ?_
  refine wp_so (σ' := (KD.take 198, rdL 0 kI_48, rdL 0 kL_2, rdL 1000000 kR_199)) rfl ?_
  refine wp_aload_n dX12_init_623 rfl rfl (Or.inl (by decide)) ?_
  refine wp_sipush dX12_init_624 (by decide +kernel) (by decide) ?_
  refine kn_nB (j := 198) dX12_init_627 (by decide) (by decide +kernel) (by decide) (by decide +kernel) ?_
  refine wp_pc (pc' := 629) rfl ?_
  refine kn_pR (N := 102) dX12_init_629 pX12_237 rfl (by decide +kernel) (by decide) (by decide) (by decide) (Or.inr ⟨_, rfl⟩) ?_
  refine wp_so (σ' := (KD.take 199, rdL 0 kI_48, rdL 0 kL_2, rdL 1000000 kR_200)) rfl ?_
  refine wp_aload_n dX12_init_632 rfl rfl (Or.inl (by decide)) ?_
  refine wp_sipush dX12_init_633 (by decide +kernel) (by decide) ?_
  refine kn_nI (j := 199) dX12_init_636 (by decide) (by decide +kernel) (by decide) (by decide +kernel) ?_
  refine kn_pR (N := 102) dX12_init_638 pX12_240 rfl (by decide +kernel) (by decide) (by decide) (by decide) (Or.inr ⟨_, rfl⟩) ?_
  refine wp_so (σ' := (KD.take 200, rdL 0 kI_48, rdL 0 kL_2, rdL 1000000 kR_201)) rfl ?_
  refine wp_aload_n dX12_init_641 rfl rfl (Or.inl (by decide)) ?_
  refine wp_sipush dX12_init_642 (by decide +kernel) (by decide) ?_
  refine kn_nI (j := 200) dX12_init_645 (by decide) (by decide +kernel) (by decide) (by decide +kernel) ?_
  refine wp_pc (pc' := 647) rfl ?_
  refine kn_pR (N := 102) dX12_init_647 pX12_243 rfl (by decide +kernel) (by decide) (by decide) (by decide) (Or.inr ⟨_, rfl⟩) ?_
  refine wp_so (σ' := (KD.take 201, rdL 0 kI_48, rdL 0 kL_2, rdL 1000000 kR_202)) rfl ?_
  exact wp_vret dX12_init_650 rfl (fun _ => hQ)
theorem kc_X12_init_124 {cs : Cs} : Mk cs mX12_init [] 124 125 201 kI_47 kL_2 kR_126 kI_48 kL_2 kR_202 := by
  intro Q hQ
  refine wp_L (L' := [some (vR 124)]) rfl ?_
  exact kc_X12_init_124_s0 (kc_X12_init_124_s1 (kc_X12_init_124_s2 (kc_X12_init_124_s3 (kc_X12_init_124_s4 (kc_X12_init_124_s5 hQ)))))
