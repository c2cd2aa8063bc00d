/-! The law: its loop. -/
theorem dL_law_0 : decode cL_law 0 = .ok (.new 7, 3) := by decide +kernel
theorem dL_law_3 : decode cL_law 3 = .ok (.dup, 1) := by decide +kernel
theorem dL_law_4 : decode cL_law 4 = .ok (.invokespecial 9, 3) := by decide +kernel
theorem dL_law_7 : decode cL_law 7 = .ok (.astore_n 1, 1) := by decide +kernel
theorem dL_law_8 : decode cL_law 8 = .ok (.new 10, 3) := by decide +kernel
theorem dL_law_11 : decode cL_law 11 = .ok (.dup, 1) := by decide +kernel
theorem dL_law_12 : decode cL_law 12 = .ok (.invokespecial 12, 3) := by decide +kernel
theorem dL_law_15 : decode cL_law 15 = .ok (.astore_n 2, 1) := by decide +kernel
theorem dL_law_16 : decode cL_law 16 = .ok (.iconst 0, 1) := by decide +kernel
theorem dL_law_17 : decode cL_law 17 = .ok (.istore_n 3, 1) := by decide +kernel
theorem dL_law_18 : decode cL_law 18 = .ok (.iload_n 3, 1) := by decide +kernel
theorem dL_law_19 : decode cL_law 19 = .ok (.aload_n 0, 1) := by decide +kernel
theorem dL_law_20 : decode cL_law 20 = .ok (.arraylength, 1) := by decide +kernel
theorem dL_law_21 : decode cL_law 21 = .ok (.bipush 6, 2) := by decide +kernel
theorem dL_law_23 : decode cL_law 23 = .ok (.isub, 1) := by decide +kernel
theorem dL_law_24 : decode cL_law 24 = .ok (.if_icmp .gt 508, 3) := by decide +kernel
theorem dL_law_27 : decode cL_law 27 = .ok (.aload_n 0, 1) := by decide +kernel
theorem dL_law_28 : decode cL_law 28 = .ok (.iload_n 3, 1) := by decide +kernel
theorem dL_law_29 : decode cL_law 29 = .ok (.iaload, 1) := by decide +kernel
theorem dL_law_30 : decode cL_law 30 = .ok (.bipush 15, 2) := by decide +kernel
theorem dL_law_32 : decode cL_law 32 = .ok (.iand, 1) := by decide +kernel
theorem dL_law_33 : decode cL_law 33 = .ok (.tableswitch 493 0 13 #[71, 134, 157, 170, 203, 236, 269, 282, 315, 348, 371, 404, 437, 470], 71) := by decide +kernel
theorem dL_law_104 : decode cL_law 104 = .ok (.aload_n 1, 1) := by decide +kernel
theorem dL_law_105 : decode cL_law 105 = .ok (.aload_n 0, 1) := by decide +kernel
theorem dL_law_106 : decode cL_law 106 = .ok (.iload_n 3, 1) := by decide +kernel
theorem dL_law_107 : decode cL_law 107 = .ok (.iconst 1, 1) := by decide +kernel
theorem dL_law_108 : decode cL_law 108 = .ok (.iadd, 1) := by decide +kernel
theorem dL_law_109 : decode cL_law 109 = .ok (.iaload, 1) := by decide +kernel
theorem dL_law_110 : decode cL_law 110 = .ok (.aload_n 0, 1) := by decide +kernel
theorem dL_law_111 : decode cL_law 111 = .ok (.iload_n 3, 1) := by decide +kernel
theorem dL_law_112 : decode cL_law 112 = .ok (.iconst 2, 1) := by decide +kernel
theorem dL_law_113 : decode cL_law 113 = .ok (.iadd, 1) := by decide +kernel
theorem dL_law_114 : decode cL_law 114 = .ok (.iaload, 1) := by decide +kernel
theorem dL_law_115 : decode cL_law 115 = .ok (.aload_n 0, 1) := by decide +kernel
theorem dL_law_116 : decode cL_law 116 = .ok (.iload_n 3, 1) := by decide +kernel
theorem dL_law_117 : decode cL_law 117 = .ok (.iconst 3, 1) := by decide +kernel
theorem dL_law_118 : decode cL_law 118 = .ok (.iadd, 1) := by decide +kernel
theorem dL_law_119 : decode cL_law 119 = .ok (.iaload, 1) := by decide +kernel
theorem dL_law_120 : decode cL_law 120 = .ok (.aload_n 0, 1) := by decide +kernel
theorem dL_law_121 : decode cL_law 121 = .ok (.iload_n 3, 1) := by decide +kernel
theorem dL_law_122 : decode cL_law 122 = .ok (.iconst 4, 1) := by decide +kernel
theorem dL_law_123 : decode cL_law 123 = .ok (.iadd, 1) := by decide +kernel
theorem dL_law_124 : decode cL_law 124 = .ok (.iaload, 1) := by decide +kernel
theorem dL_law_125 : decode cL_law 125 = .ok (.aload_n 0, 1) := by decide +kernel
theorem dL_law_126 : decode cL_law 126 = .ok (.iload_n 3, 1) := by decide +kernel
theorem dL_law_127 : decode cL_law 127 = .ok (.iconst 5, 1) := by decide +kernel
theorem dL_law_128 : decode cL_law 128 = .ok (.iadd, 1) := by decide +kernel
theorem dL_law_129 : decode cL_law 129 = .ok (.iaload, 1) := by decide +kernel
theorem dL_law_130 : decode cL_law 130 = .ok (.invokevirtual 13, 3) := by decide +kernel
theorem dL_law_133 : decode cL_law 133 = .ok (.aload_n 2, 1) := by decide +kernel
theorem dL_law_134 : decode cL_law 134 = .ok (.aload_n 0, 1) := by decide +kernel
theorem dL_law_135 : decode cL_law 135 = .ok (.iload_n 3, 1) := by decide +kernel
theorem dL_law_136 : decode cL_law 136 = .ok (.iconst 1, 1) := by decide +kernel
theorem dL_law_137 : decode cL_law 137 = .ok (.iadd, 1) := by decide +kernel
theorem dL_law_138 : decode cL_law 138 = .ok (.iaload, 1) := by decide +kernel
theorem dL_law_139 : decode cL_law 139 = .ok (.aload_n 0, 1) := by decide +kernel
theorem dL_law_140 : decode cL_law 140 = .ok (.iload_n 3, 1) := by decide +kernel
theorem dL_law_141 : decode cL_law 141 = .ok (.iconst 2, 1) := by decide +kernel
theorem dL_law_142 : decode cL_law 142 = .ok (.iadd, 1) := by decide +kernel
theorem dL_law_143 : decode cL_law 143 = .ok (.iaload, 1) := by decide +kernel
theorem dL_law_144 : decode cL_law 144 = .ok (.aload_n 0, 1) := by decide +kernel
theorem dL_law_145 : decode cL_law 145 = .ok (.iload_n 3, 1) := by decide +kernel
theorem dL_law_146 : decode cL_law 146 = .ok (.iconst 3, 1) := by decide +kernel
theorem dL_law_147 : decode cL_law 147 = .ok (.iadd, 1) := by decide +kernel
theorem dL_law_148 : decode cL_law 148 = .ok (.iaload, 1) := by decide +kernel
theorem dL_law_149 : decode cL_law 149 = .ok (.aload_n 0, 1) := by decide +kernel
theorem dL_law_150 : decode cL_law 150 = .ok (.iload_n 3, 1) := by decide +kernel
theorem dL_law_151 : decode cL_law 151 = .ok (.iconst 4, 1) := by decide +kernel
theorem dL_law_152 : decode cL_law 152 = .ok (.iadd, 1) := by decide +kernel
theorem dL_law_153 : decode cL_law 153 = .ok (.iaload, 1) := by decide +kernel
theorem dL_law_154 : decode cL_law 154 = .ok (.aload_n 0, 1) := by decide +kernel
theorem dL_law_155 : decode cL_law 155 = .ok (.iload_n 3, 1) := by decide +kernel
theorem dL_law_156 : decode cL_law 156 = .ok (.iconst 5, 1) := by decide +kernel
theorem dL_law_157 : decode cL_law 157 = .ok (.iadd, 1) := by decide +kernel
theorem dL_law_158 : decode cL_law 158 = .ok (.iaload, 1) := by decide +kernel
theorem dL_law_159 : decode cL_law 159 = .ok (.invokevirtual 17, 3) := by decide +kernel
theorem dL_law_162 : decode cL_law 162 = .ok (.if_icmp .eq 364, 3) := by decide +kernel
theorem dL_law_165 : decode cL_law 165 = .ok (.iconst 0, 1) := by decide +kernel
theorem dL_law_166 : decode cL_law 166 = .ok (.ireturn, 1) := by decide +kernel
theorem dL_law_167 : decode cL_law 167 = .ok (.aload_n 1, 1) := by decide +kernel
theorem dL_law_168 : decode cL_law 168 = .ok (.aload_n 0, 1) := by decide +kernel
theorem dL_law_169 : decode cL_law 169 = .ok (.iload_n 3, 1) := by decide +kernel
theorem dL_law_170 : decode cL_law 170 = .ok (.iconst 1, 1) := by decide +kernel
theorem dL_law_171 : decode cL_law 171 = .ok (.iadd, 1) := by decide +kernel
theorem dL_law_172 : decode cL_law 172 = .ok (.iaload, 1) := by decide +kernel
theorem dL_law_173 : decode cL_law 173 = .ok (.invokevirtual 18, 3) := by decide +kernel
theorem dL_law_176 : decode cL_law 176 = .ok (.aload_n 2, 1) := by decide +kernel
theorem dL_law_177 : decode cL_law 177 = .ok (.aload_n 0, 1) := by decide +kernel
theorem dL_law_178 : decode cL_law 178 = .ok (.iload_n 3, 1) := by decide +kernel
theorem dL_law_179 : decode cL_law 179 = .ok (.iconst 1, 1) := by decide +kernel
theorem dL_law_180 : decode cL_law 180 = .ok (.iadd, 1) := by decide +kernel
theorem dL_law_181 : decode cL_law 181 = .ok (.iaload, 1) := by decide +kernel
theorem dL_law_182 : decode cL_law 182 = .ok (.invokevirtual 22, 3) := by decide +kernel
theorem dL_law_185 : decode cL_law 185 = .ok (.if_icmp .eq 341, 3) := by decide +kernel
theorem dL_law_188 : decode cL_law 188 = .ok (.iconst 0, 1) := by decide +kernel
theorem dL_law_189 : decode cL_law 189 = .ok (.ireturn, 1) := by decide +kernel
theorem dL_law_190 : decode cL_law 190 = .ok (.aload_n 1, 1) := by decide +kernel
theorem dL_law_191 : decode cL_law 191 = .ok (.invokevirtual 23, 3) := by decide +kernel
theorem dL_law_194 : decode cL_law 194 = .ok (.aload_n 2, 1) := by decide +kernel
theorem dL_law_195 : decode cL_law 195 = .ok (.invokevirtual 27, 3) := by decide +kernel
theorem dL_law_198 : decode cL_law 198 = .ok (.if_icmp .eq 328, 3) := by decide +kernel
theorem dL_law_201 : decode cL_law 201 = .ok (.iconst 0, 1) := by decide +kernel
theorem dL_law_202 : decode cL_law 202 = .ok (.ireturn, 1) := by decide +kernel
theorem dL_law_203 : decode cL_law 203 = .ok (.aload_n 1, 1) := by decide +kernel
theorem dL_law_204 : decode cL_law 204 = .ok (.aload_n 0, 1) := by decide +kernel
theorem dL_law_205 : decode cL_law 205 = .ok (.iload_n 3, 1) := by decide +kernel
theorem dL_law_206 : decode cL_law 206 = .ok (.iconst 1, 1) := by decide +kernel
theorem dL_law_207 : decode cL_law 207 = .ok (.iadd, 1) := by decide +kernel
theorem dL_law_208 : decode cL_law 208 = .ok (.iaload, 1) := by decide +kernel
theorem dL_law_209 : decode cL_law 209 = .ok (.aload_n 0, 1) := by decide +kernel
theorem dL_law_210 : decode cL_law 210 = .ok (.iload_n 3, 1) := by decide +kernel
theorem dL_law_211 : decode cL_law 211 = .ok (.iconst 2, 1) := by decide +kernel
theorem dL_law_212 : decode cL_law 212 = .ok (.iadd, 1) := by decide +kernel
theorem dL_law_213 : decode cL_law 213 = .ok (.iaload, 1) := by decide +kernel
theorem dL_law_214 : decode cL_law 214 = .ok (.invokevirtual 28, 3) := by decide +kernel
theorem dL_law_217 : decode cL_law 217 = .ok (.aload_n 2, 1) := by decide +kernel
theorem dL_law_218 : decode cL_law 218 = .ok (.aload_n 0, 1) := by decide +kernel
theorem dL_law_219 : decode cL_law 219 = .ok (.iload_n 3, 1) := by decide +kernel
theorem dL_law_220 : decode cL_law 220 = .ok (.iconst 1, 1) := by decide +kernel
theorem dL_law_221 : decode cL_law 221 = .ok (.iadd, 1) := by decide +kernel
theorem dL_law_222 : decode cL_law 222 = .ok (.iaload, 1) := by decide +kernel
theorem dL_law_223 : decode cL_law 223 = .ok (.aload_n 0, 1) := by decide +kernel
theorem dL_law_224 : decode cL_law 224 = .ok (.iload_n 3, 1) := by decide +kernel
theorem dL_law_225 : decode cL_law 225 = .ok (.iconst 2, 1) := by decide +kernel
theorem dL_law_226 : decode cL_law 226 = .ok (.iadd, 1) := by decide +kernel
theorem dL_law_227 : decode cL_law 227 = .ok (.iaload, 1) := by decide +kernel
theorem dL_law_228 : decode cL_law 228 = .ok (.invokevirtual 32, 3) := by decide +kernel
theorem dL_law_231 : decode cL_law 231 = .ok (.if_icmp .eq 295, 3) := by decide +kernel
theorem dL_law_234 : decode cL_law 234 = .ok (.iconst 0, 1) := by decide +kernel
theorem dL_law_235 : decode cL_law 235 = .ok (.ireturn, 1) := by decide +kernel
theorem dL_law_236 : decode cL_law 236 = .ok (.aload_n 1, 1) := by decide +kernel
theorem dL_law_237 : decode cL_law 237 = .ok (.aload_n 0, 1) := by decide +kernel
theorem dL_law_238 : decode cL_law 238 = .ok (.iload_n 3, 1) := by decide +kernel
theorem dL_law_239 : decode cL_law 239 = .ok (.iconst 1, 1) := by decide +kernel
theorem dL_law_240 : decode cL_law 240 = .ok (.iadd, 1) := by decide +kernel
theorem dL_law_241 : decode cL_law 241 = .ok (.iaload, 1) := by decide +kernel
theorem dL_law_242 : decode cL_law 242 = .ok (.aload_n 0, 1) := by decide +kernel
theorem dL_law_243 : decode cL_law 243 = .ok (.iload_n 3, 1) := by decide +kernel
theorem dL_law_244 : decode cL_law 244 = .ok (.iconst 2, 1) := by decide +kernel
theorem dL_law_245 : decode cL_law 245 = .ok (.iadd, 1) := by decide +kernel
theorem dL_law_246 : decode cL_law 246 = .ok (.iaload, 1) := by decide +kernel
theorem dL_law_247 : decode cL_law 247 = .ok (.invokevirtual 33, 3) := by decide +kernel
theorem dL_law_250 : decode cL_law 250 = .ok (.aload_n 2, 1) := by decide +kernel
theorem dL_law_251 : decode cL_law 251 = .ok (.aload_n 0, 1) := by decide +kernel
theorem dL_law_252 : decode cL_law 252 = .ok (.iload_n 3, 1) := by decide +kernel
theorem dL_law_253 : decode cL_law 253 = .ok (.iconst 1, 1) := by decide +kernel
theorem dL_law_254 : decode cL_law 254 = .ok (.iadd, 1) := by decide +kernel
theorem dL_law_255 : decode cL_law 255 = .ok (.iaload, 1) := by decide +kernel
theorem dL_law_256 : decode cL_law 256 = .ok (.aload_n 0, 1) := by decide +kernel
theorem dL_law_257 : decode cL_law 257 = .ok (.iload_n 3, 1) := by decide +kernel
theorem dL_law_258 : decode cL_law 258 = .ok (.iconst 2, 1) := by decide +kernel
theorem dL_law_259 : decode cL_law 259 = .ok (.iadd, 1) := by decide +kernel
theorem dL_law_260 : decode cL_law 260 = .ok (.iaload, 1) := by decide +kernel
theorem dL_law_261 : decode cL_law 261 = .ok (.invokevirtual 36, 3) := by decide +kernel
theorem dL_law_264 : decode cL_law 264 = .ok (.if_icmp .eq 262, 3) := by decide +kernel
theorem dL_law_267 : decode cL_law 267 = .ok (.iconst 0, 1) := by decide +kernel
theorem dL_law_268 : decode cL_law 268 = .ok (.ireturn, 1) := by decide +kernel
theorem dL_law_269 : decode cL_law 269 = .ok (.aload_n 1, 1) := by decide +kernel
theorem dL_law_270 : decode cL_law 270 = .ok (.aload_n 0, 1) := by decide +kernel
theorem dL_law_271 : decode cL_law 271 = .ok (.iload_n 3, 1) := by decide +kernel
theorem dL_law_272 : decode cL_law 272 = .ok (.iconst 1, 1) := by decide +kernel
theorem dL_law_273 : decode cL_law 273 = .ok (.iadd, 1) := by decide +kernel
theorem dL_law_274 : decode cL_law 274 = .ok (.iaload, 1) := by decide +kernel
theorem dL_law_275 : decode cL_law 275 = .ok (.aload_n 0, 1) := by decide +kernel
theorem dL_law_276 : decode cL_law 276 = .ok (.iload_n 3, 1) := by decide +kernel
theorem dL_law_277 : decode cL_law 277 = .ok (.iconst 2, 1) := by decide +kernel
theorem dL_law_278 : decode cL_law 278 = .ok (.iadd, 1) := by decide +kernel
theorem dL_law_279 : decode cL_law 279 = .ok (.iaload, 1) := by decide +kernel
theorem dL_law_280 : decode cL_law 280 = .ok (.invokevirtual 37, 3) := by decide +kernel
theorem dL_law_283 : decode cL_law 283 = .ok (.aload_n 2, 1) := by decide +kernel
theorem dL_law_284 : decode cL_law 284 = .ok (.aload_n 0, 1) := by decide +kernel
theorem dL_law_285 : decode cL_law 285 = .ok (.iload_n 3, 1) := by decide +kernel
theorem dL_law_286 : decode cL_law 286 = .ok (.iconst 1, 1) := by decide +kernel
theorem dL_law_287 : decode cL_law 287 = .ok (.iadd, 1) := by decide +kernel
theorem dL_law_288 : decode cL_law 288 = .ok (.iaload, 1) := by decide +kernel
theorem dL_law_289 : decode cL_law 289 = .ok (.aload_n 0, 1) := by decide +kernel
theorem dL_law_290 : decode cL_law 290 = .ok (.iload_n 3, 1) := by decide +kernel
theorem dL_law_291 : decode cL_law 291 = .ok (.iconst 2, 1) := by decide +kernel
theorem dL_law_292 : decode cL_law 292 = .ok (.iadd, 1) := by decide +kernel
theorem dL_law_293 : decode cL_law 293 = .ok (.iaload, 1) := by decide +kernel
theorem dL_law_294 : decode cL_law 294 = .ok (.invokevirtual 40, 3) := by decide +kernel
theorem dL_law_297 : decode cL_law 297 = .ok (.if_icmp .eq 229, 3) := by decide +kernel
theorem dL_law_300 : decode cL_law 300 = .ok (.iconst 0, 1) := by decide +kernel
theorem dL_law_301 : decode cL_law 301 = .ok (.ireturn, 1) := by decide +kernel
theorem dL_law_302 : decode cL_law 302 = .ok (.aload_n 1, 1) := by decide +kernel
theorem dL_law_303 : decode cL_law 303 = .ok (.invokevirtual 41, 3) := by decide +kernel
theorem dL_law_306 : decode cL_law 306 = .ok (.aload_n 2, 1) := by decide +kernel
theorem dL_law_307 : decode cL_law 307 = .ok (.invokevirtual 44, 3) := by decide +kernel
theorem dL_law_310 : decode cL_law 310 = .ok (.if_icmp .eq 216, 3) := by decide +kernel
theorem dL_law_313 : decode cL_law 313 = .ok (.iconst 0, 1) := by decide +kernel
theorem dL_law_314 : decode cL_law 314 = .ok (.ireturn, 1) := by decide +kernel
theorem dL_law_315 : decode cL_law 315 = .ok (.aload_n 1, 1) := by decide +kernel
theorem dL_law_316 : decode cL_law 316 = .ok (.aload_n 0, 1) := by decide +kernel
theorem dL_law_317 : decode cL_law 317 = .ok (.iload_n 3, 1) := by decide +kernel
theorem dL_law_318 : decode cL_law 318 = .ok (.iconst 1, 1) := by decide +kernel
theorem dL_law_319 : decode cL_law 319 = .ok (.iadd, 1) := by decide +kernel
theorem dL_law_320 : decode cL_law 320 = .ok (.iaload, 1) := by decide +kernel
theorem dL_law_321 : decode cL_law 321 = .ok (.aload_n 0, 1) := by decide +kernel
theorem dL_law_322 : decode cL_law 322 = .ok (.iload_n 3, 1) := by decide +kernel
theorem dL_law_323 : decode cL_law 323 = .ok (.iconst 2, 1) := by decide +kernel
theorem dL_law_324 : decode cL_law 324 = .ok (.iadd, 1) := by decide +kernel
theorem dL_law_325 : decode cL_law 325 = .ok (.iaload, 1) := by decide +kernel
theorem dL_law_326 : decode cL_law 326 = .ok (.invokevirtual 45, 3) := by decide +kernel
theorem dL_law_329 : decode cL_law 329 = .ok (.aload_n 2, 1) := by decide +kernel
theorem dL_law_330 : decode cL_law 330 = .ok (.aload_n 0, 1) := by decide +kernel
theorem dL_law_331 : decode cL_law 331 = .ok (.iload_n 3, 1) := by decide +kernel
theorem dL_law_332 : decode cL_law 332 = .ok (.iconst 1, 1) := by decide +kernel
theorem dL_law_333 : decode cL_law 333 = .ok (.iadd, 1) := by decide +kernel
theorem dL_law_334 : decode cL_law 334 = .ok (.iaload, 1) := by decide +kernel
theorem dL_law_335 : decode cL_law 335 = .ok (.aload_n 0, 1) := by decide +kernel
theorem dL_law_336 : decode cL_law 336 = .ok (.iload_n 3, 1) := by decide +kernel
theorem dL_law_337 : decode cL_law 337 = .ok (.iconst 2, 1) := by decide +kernel
theorem dL_law_338 : decode cL_law 338 = .ok (.iadd, 1) := by decide +kernel
theorem dL_law_339 : decode cL_law 339 = .ok (.iaload, 1) := by decide +kernel
theorem dL_law_340 : decode cL_law 340 = .ok (.invokevirtual 48, 3) := by decide +kernel
theorem dL_law_343 : decode cL_law 343 = .ok (.if_icmp .eq 183, 3) := by decide +kernel
theorem dL_law_346 : decode cL_law 346 = .ok (.iconst 0, 1) := by decide +kernel
theorem dL_law_347 : decode cL_law 347 = .ok (.ireturn, 1) := by decide +kernel
theorem dL_law_348 : decode cL_law 348 = .ok (.aload_n 1, 1) := by decide +kernel
theorem dL_law_349 : decode cL_law 349 = .ok (.aload_n 0, 1) := by decide +kernel
theorem dL_law_350 : decode cL_law 350 = .ok (.iload_n 3, 1) := by decide +kernel
theorem dL_law_351 : decode cL_law 351 = .ok (.iconst 1, 1) := by decide +kernel
theorem dL_law_352 : decode cL_law 352 = .ok (.iadd, 1) := by decide +kernel
theorem dL_law_353 : decode cL_law 353 = .ok (.iaload, 1) := by decide +kernel
theorem dL_law_354 : decode cL_law 354 = .ok (.aload_n 0, 1) := by decide +kernel
theorem dL_law_355 : decode cL_law 355 = .ok (.iload_n 3, 1) := by decide +kernel
theorem dL_law_356 : decode cL_law 356 = .ok (.iconst 2, 1) := by decide +kernel
theorem dL_law_357 : decode cL_law 357 = .ok (.iadd, 1) := by decide +kernel
theorem dL_law_358 : decode cL_law 358 = .ok (.iaload, 1) := by decide +kernel
theorem dL_law_359 : decode cL_law 359 = .ok (.invokevirtual 49, 3) := by decide +kernel
theorem dL_law_362 : decode cL_law 362 = .ok (.aload_n 2, 1) := by decide +kernel
theorem dL_law_363 : decode cL_law 363 = .ok (.aload_n 0, 1) := by decide +kernel
theorem dL_law_364 : decode cL_law 364 = .ok (.iload_n 3, 1) := by decide +kernel
theorem dL_law_365 : decode cL_law 365 = .ok (.iconst 1, 1) := by decide +kernel
theorem dL_law_366 : decode cL_law 366 = .ok (.iadd, 1) := by decide +kernel
theorem dL_law_367 : decode cL_law 367 = .ok (.iaload, 1) := by decide +kernel
theorem dL_law_368 : decode cL_law 368 = .ok (.aload_n 0, 1) := by decide +kernel
theorem dL_law_369 : decode cL_law 369 = .ok (.iload_n 3, 1) := by decide +kernel
theorem dL_law_370 : decode cL_law 370 = .ok (.iconst 2, 1) := by decide +kernel
theorem dL_law_371 : decode cL_law 371 = .ok (.iadd, 1) := by decide +kernel
theorem dL_law_372 : decode cL_law 372 = .ok (.iaload, 1) := by decide +kernel
theorem dL_law_373 : decode cL_law 373 = .ok (.invokevirtual 52, 3) := by decide +kernel
theorem dL_law_376 : decode cL_law 376 = .ok (.if_icmp .eq 150, 3) := by decide +kernel
theorem dL_law_379 : decode cL_law 379 = .ok (.iconst 0, 1) := by decide +kernel
theorem dL_law_380 : decode cL_law 380 = .ok (.ireturn, 1) := by decide +kernel
theorem dL_law_381 : decode cL_law 381 = .ok (.aload_n 1, 1) := by decide +kernel
theorem dL_law_382 : decode cL_law 382 = .ok (.aload_n 0, 1) := by decide +kernel
theorem dL_law_383 : decode cL_law 383 = .ok (.iload_n 3, 1) := by decide +kernel
theorem dL_law_384 : decode cL_law 384 = .ok (.iconst 1, 1) := by decide +kernel
theorem dL_law_385 : decode cL_law 385 = .ok (.iadd, 1) := by decide +kernel
theorem dL_law_386 : decode cL_law 386 = .ok (.iaload, 1) := by decide +kernel
theorem dL_law_387 : decode cL_law 387 = .ok (.invokevirtual 53, 3) := by decide +kernel
theorem dL_law_390 : decode cL_law 390 = .ok (.aload_n 2, 1) := by decide +kernel
theorem dL_law_391 : decode cL_law 391 = .ok (.aload_n 0, 1) := by decide +kernel
theorem dL_law_392 : decode cL_law 392 = .ok (.iload_n 3, 1) := by decide +kernel
theorem dL_law_393 : decode cL_law 393 = .ok (.iconst 1, 1) := by decide +kernel
theorem dL_law_394 : decode cL_law 394 = .ok (.iadd, 1) := by decide +kernel
theorem dL_law_395 : decode cL_law 395 = .ok (.iaload, 1) := by decide +kernel
theorem dL_law_396 : decode cL_law 396 = .ok (.invokevirtual 56, 3) := by decide +kernel
theorem dL_law_399 : decode cL_law 399 = .ok (.if_icmp .eq 127, 3) := by decide +kernel
theorem dL_law_402 : decode cL_law 402 = .ok (.iconst 0, 1) := by decide +kernel
theorem dL_law_403 : decode cL_law 403 = .ok (.ireturn, 1) := by decide +kernel
theorem dL_law_404 : decode cL_law 404 = .ok (.aload_n 1, 1) := by decide +kernel
theorem dL_law_405 : decode cL_law 405 = .ok (.aload_n 0, 1) := by decide +kernel
theorem dL_law_406 : decode cL_law 406 = .ok (.iload_n 3, 1) := by decide +kernel
theorem dL_law_407 : decode cL_law 407 = .ok (.iconst 1, 1) := by decide +kernel
theorem dL_law_408 : decode cL_law 408 = .ok (.iadd, 1) := by decide +kernel
theorem dL_law_409 : decode cL_law 409 = .ok (.iaload, 1) := by decide +kernel
theorem dL_law_410 : decode cL_law 410 = .ok (.aload_n 0, 1) := by decide +kernel
theorem dL_law_411 : decode cL_law 411 = .ok (.iload_n 3, 1) := by decide +kernel
theorem dL_law_412 : decode cL_law 412 = .ok (.iconst 2, 1) := by decide +kernel
theorem dL_law_413 : decode cL_law 413 = .ok (.iadd, 1) := by decide +kernel
theorem dL_law_414 : decode cL_law 414 = .ok (.iaload, 1) := by decide +kernel
theorem dL_law_415 : decode cL_law 415 = .ok (.invokevirtual 57, 3) := by decide +kernel
theorem dL_law_418 : decode cL_law 418 = .ok (.aload_n 2, 1) := by decide +kernel
theorem dL_law_419 : decode cL_law 419 = .ok (.aload_n 0, 1) := by decide +kernel
theorem dL_law_420 : decode cL_law 420 = .ok (.iload_n 3, 1) := by decide +kernel
theorem dL_law_421 : decode cL_law 421 = .ok (.iconst 1, 1) := by decide +kernel
theorem dL_law_422 : decode cL_law 422 = .ok (.iadd, 1) := by decide +kernel
theorem dL_law_423 : decode cL_law 423 = .ok (.iaload, 1) := by decide +kernel
theorem dL_law_424 : decode cL_law 424 = .ok (.aload_n 0, 1) := by decide +kernel
theorem dL_law_425 : decode cL_law 425 = .ok (.iload_n 3, 1) := by decide +kernel
theorem dL_law_426 : decode cL_law 426 = .ok (.iconst 2, 1) := by decide +kernel
theorem dL_law_427 : decode cL_law 427 = .ok (.iadd, 1) := by decide +kernel
theorem dL_law_428 : decode cL_law 428 = .ok (.iaload, 1) := by decide +kernel
theorem dL_law_429 : decode cL_law 429 = .ok (.invokevirtual 60, 3) := by decide +kernel
theorem dL_law_432 : decode cL_law 432 = .ok (.if_icmp .eq 94, 3) := by decide +kernel
theorem dL_law_435 : decode cL_law 435 = .ok (.iconst 0, 1) := by decide +kernel
theorem dL_law_436 : decode cL_law 436 = .ok (.ireturn, 1) := by decide +kernel
theorem dL_law_437 : decode cL_law 437 = .ok (.aload_n 1, 1) := by decide +kernel
theorem dL_law_438 : decode cL_law 438 = .ok (.aload_n 0, 1) := by decide +kernel
theorem dL_law_439 : decode cL_law 439 = .ok (.iload_n 3, 1) := by decide +kernel
theorem dL_law_440 : decode cL_law 440 = .ok (.iconst 1, 1) := by decide +kernel
theorem dL_law_441 : decode cL_law 441 = .ok (.iadd, 1) := by decide +kernel
theorem dL_law_442 : decode cL_law 442 = .ok (.iaload, 1) := by decide +kernel
theorem dL_law_443 : decode cL_law 443 = .ok (.aload_n 0, 1) := by decide +kernel
theorem dL_law_444 : decode cL_law 444 = .ok (.iload_n 3, 1) := by decide +kernel
theorem dL_law_445 : decode cL_law 445 = .ok (.iconst 2, 1) := by decide +kernel
theorem dL_law_446 : decode cL_law 446 = .ok (.iadd, 1) := by decide +kernel
theorem dL_law_447 : decode cL_law 447 = .ok (.iaload, 1) := by decide +kernel
theorem dL_law_448 : decode cL_law 448 = .ok (.invokevirtual 61, 3) := by decide +kernel
theorem dL_law_451 : decode cL_law 451 = .ok (.aload_n 2, 1) := by decide +kernel
theorem dL_law_452 : decode cL_law 452 = .ok (.aload_n 0, 1) := by decide +kernel
theorem dL_law_453 : decode cL_law 453 = .ok (.iload_n 3, 1) := by decide +kernel
theorem dL_law_454 : decode cL_law 454 = .ok (.iconst 1, 1) := by decide +kernel
theorem dL_law_455 : decode cL_law 455 = .ok (.iadd, 1) := by decide +kernel
theorem dL_law_456 : decode cL_law 456 = .ok (.iaload, 1) := by decide +kernel
theorem dL_law_457 : decode cL_law 457 = .ok (.aload_n 0, 1) := by decide +kernel
theorem dL_law_458 : decode cL_law 458 = .ok (.iload_n 3, 1) := by decide +kernel
theorem dL_law_459 : decode cL_law 459 = .ok (.iconst 2, 1) := by decide +kernel
theorem dL_law_460 : decode cL_law 460 = .ok (.iadd, 1) := by decide +kernel
theorem dL_law_461 : decode cL_law 461 = .ok (.iaload, 1) := by decide +kernel
theorem dL_law_462 : decode cL_law 462 = .ok (.invokevirtual 64, 3) := by decide +kernel
theorem dL_law_465 : decode cL_law 465 = .ok (.if_icmp .eq 61, 3) := by decide +kernel
theorem dL_law_468 : decode cL_law 468 = .ok (.iconst 0, 1) := by decide +kernel
theorem dL_law_469 : decode cL_law 469 = .ok (.ireturn, 1) := by decide +kernel
theorem dL_law_470 : decode cL_law 470 = .ok (.aload_n 1, 1) := by decide +kernel
theorem dL_law_471 : decode cL_law 471 = .ok (.aload_n 0, 1) := by decide +kernel
theorem dL_law_472 : decode cL_law 472 = .ok (.iload_n 3, 1) := by decide +kernel
theorem dL_law_473 : decode cL_law 473 = .ok (.iconst 1, 1) := by decide +kernel
theorem dL_law_474 : decode cL_law 474 = .ok (.iadd, 1) := by decide +kernel
theorem dL_law_475 : decode cL_law 475 = .ok (.iaload, 1) := by decide +kernel
theorem dL_law_476 : decode cL_law 476 = .ok (.aload_n 0, 1) := by decide +kernel
theorem dL_law_477 : decode cL_law 477 = .ok (.iload_n 3, 1) := by decide +kernel
theorem dL_law_478 : decode cL_law 478 = .ok (.iconst 2, 1) := by decide +kernel
theorem dL_law_479 : decode cL_law 479 = .ok (.iadd, 1) := by decide +kernel
theorem dL_law_480 : decode cL_law 480 = .ok (.iaload, 1) := by decide +kernel
theorem dL_law_481 : decode cL_law 481 = .ok (.invokevirtual 65, 3) := by decide +kernel
theorem dL_law_484 : decode cL_law 484 = .ok (.aload_n 2, 1) := by decide +kernel
theorem dL_law_485 : decode cL_law 485 = .ok (.aload_n 0, 1) := by decide +kernel
theorem dL_law_486 : decode cL_law 486 = .ok (.iload_n 3, 1) := by decide +kernel
theorem dL_law_487 : decode cL_law 487 = .ok (.iconst 1, 1) := by decide +kernel
theorem dL_law_488 : decode cL_law 488 = .ok (.iadd, 1) := by decide +kernel
theorem dL_law_489 : decode cL_law 489 = .ok (.iaload, 1) := by decide +kernel
theorem dL_law_490 : decode cL_law 490 = .ok (.aload_n 0, 1) := by decide +kernel
theorem dL_law_491 : decode cL_law 491 = .ok (.iload_n 3, 1) := by decide +kernel
theorem dL_law_492 : decode cL_law 492 = .ok (.iconst 2, 1) := by decide +kernel
theorem dL_law_493 : decode cL_law 493 = .ok (.iadd, 1) := by decide +kernel
theorem dL_law_494 : decode cL_law 494 = .ok (.iaload, 1) := by decide +kernel
theorem dL_law_495 : decode cL_law 495 = .ok (.invokevirtual 68, 3) := by decide +kernel
theorem dL_law_498 : decode cL_law 498 = .ok (.if_icmp .eq 28, 3) := by decide +kernel
theorem dL_law_501 : decode cL_law 501 = .ok (.iconst 0, 1) := by decide +kernel
theorem dL_law_502 : decode cL_law 502 = .ok (.ireturn, 1) := by decide +kernel
theorem dL_law_503 : decode cL_law 503 = .ok (.aload_n 1, 1) := by decide +kernel
theorem dL_law_504 : decode cL_law 504 = .ok (.aload_n 0, 1) := by decide +kernel
theorem dL_law_505 : decode cL_law 505 = .ok (.iload_n 3, 1) := by decide +kernel
theorem dL_law_506 : decode cL_law 506 = .ok (.iconst 1, 1) := by decide +kernel
theorem dL_law_507 : decode cL_law 507 = .ok (.iadd, 1) := by decide +kernel
theorem dL_law_508 : decode cL_law 508 = .ok (.iaload, 1) := by decide +kernel
theorem dL_law_509 : decode cL_law 509 = .ok (.invokevirtual 69, 3) := by decide +kernel
theorem dL_law_512 : decode cL_law 512 = .ok (.aload_n 2, 1) := by decide +kernel
theorem dL_law_513 : decode cL_law 513 = .ok (.aload_n 0, 1) := by decide +kernel
theorem dL_law_514 : decode cL_law 514 = .ok (.iload_n 3, 1) := by decide +kernel
theorem dL_law_515 : decode cL_law 515 = .ok (.iconst 1, 1) := by decide +kernel
theorem dL_law_516 : decode cL_law 516 = .ok (.iadd, 1) := by decide +kernel
theorem dL_law_517 : decode cL_law 517 = .ok (.iaload, 1) := by decide +kernel
theorem dL_law_518 : decode cL_law 518 = .ok (.invokevirtual 72, 3) := by decide +kernel
theorem dL_law_521 : decode cL_law 521 = .ok (.if_icmp .eq 5, 3) := by decide +kernel
theorem dL_law_524 : decode cL_law 524 = .ok (.iconst 0, 1) := by decide +kernel
theorem dL_law_525 : decode cL_law 525 = .ok (.ireturn, 1) := by decide +kernel
theorem dL_law_526 : decode cL_law 526 = .ok (.iinc 3 6, 3) := by decide +kernel
theorem dL_law_529 : decode cL_law 529 = .ok (.goto (-511), 3) := by decide +kernel
theorem dL_law_532 : decode cL_law 532 = .ok (.iconst 1, 1) := by decide +kernel
theorem dL_law_533 : decode cL_law 533 = .ok (.ireturn, 1) := by decide +kernel
abbrev LL (i : Int) : Lc := [some (vR 1000002), some (vR 0), some (vR 124), some (vI i)]
section Pg05
variable {cs : Cs} {Q : Option AV → Mm → Prop} {M : Mm} {i : Int}
theorem law_0 (hn : cs.2.2.2.2.1 ≤ 3072) (h0 : 0 ≤ i) (hi : i + 6 ≤ (cs.2.2.2.2.1 : Int)) (hsc : ∀ k, -2147483648 ≤ cs.2.2.2.2.2.1 k ∧ cs.2.2.2.2.2.1 k < 2147483648) (hI : InvM M) (h : ∀ M, InvM M → wp cs mL_law KD Q 526 (LL i) [] (KD, M)) : wp cs mL_law KD Q 104 (LL i) [] (KD, M) := by
  refine wp_aload_n dL_law_104 rfl rfl (by first | exact Or.inl (by decide) | exact Or.inr (by decide)) ?_
  refine wp_aload_n dL_law_105 rfl rfl (by first | exact Or.inl (by decide) | exact Or.inr (by decide)) ?_
  refine wp_iload_n dL_law_106 rfl rfl ?_
  refine wp_iconst dL_law_107 (by decide) ?_
  refine wp_iaddr dL_law_108 (by omega) ?_
  refine wp_sld dL_law_109 (by omega) (hsc _) ?_
  refine wp_aload_n dL_law_110 rfl rfl (by first | exact Or.inl (by decide) | exact Or.inr (by decide)) ?_
  refine wp_pc (pc' := 111) rfl ?_
  refine wp_iload_n dL_law_111 rfl rfl ?_
  refine wp_iconst dL_law_112 (by decide) ?_
  refine wp_iaddr dL_law_113 (by omega) ?_
  refine wp_sld dL_law_114 (by omega) (hsc _) ?_
  refine wp_aload_n dL_law_115 rfl rfl (by first | exact Or.inl (by decide) | exact Or.inr (by decide)) ?_
  refine wp_iload_n dL_law_116 rfl rfl ?_
  refine wp_iconst dL_law_117 (by decide) ?_
  refine wp_iaddr dL_law_118 (by omega) ?_
  refine wp_pc (pc' := 119) rfl ?_
  refine wp_sld dL_law_119 (by omega) (hsc _) ?_
  refine wp_aload_n dL_law_120 rfl rfl (by first | exact Or.inl (by decide) | exact Or.inr (by decide)) ?_
  refine wp_iload_n dL_law_121 rfl rfl ?_
  refine wp_iconst dL_law_122 (by decide) ?_
  refine wp_iaddr dL_law_123 (by omega) ?_
  refine wp_sld dL_law_124 (by omega) (hsc _) ?_
  refine wp_aload_n dL_law_125 rfl rfl (by first | exact Or.inl (by decide) | exact Or.inr (by decide)) ?_
  refine wp_iload_n dL_law_126 rfl rfl ?_
  refine wp_pc (pc' := 127) rfl ?_
  refine wp_iconst dL_law_127 (by decide) ?_
  refine wp_iaddr dL_law_128 (by omega) ?_
  refine wp_sld dL_law_129 (by omega) (hsc _) ?_
  refine wp_cVq (n := 5) (mt' := mX11_feed) (as := [vI (cs.2.2.2.2.2.1 (i + 1).toNat), vI (cs.2.2.2.2.2.1 (i + 2).toNat), vI (cs.2.2.2.2.2.1 (i + 3).toNat), vI (cs.2.2.2.2.2.1 (i + 4).toNat), vI (cs.2.2.2.2.2.1 (i + 5).toNat)]) (rest := []) _ dL_law_130 lL_13 kX11_feed vX11_feed (by decide) (by decide +kernel) rfl (Nat.le_of_ble_eq_true rfl) (by decide) rfl rfl rfl (Nat.le_of_ble_eq_true rfl) (fun hM hS => (b_feed M hI)) (fun r M hq hM => ?_)
  obtain ⟨a, rfl, hq⟩ := hq
  refine wp_aload_n dL_law_133 rfl rfl (by first | exact Or.inl (by decide) | exact Or.inr (by decide)) ?_
  refine wp_aload_n dL_law_134 rfl rfl (by first | exact Or.inl (by decide) | exact Or.inr (by decide)) ?_
  refine wp_iload_n dL_law_135 rfl rfl ?_
  refine wp_iconst dL_law_136 (by decide) ?_
  refine wp_pc (pc' := 137) rfl ?_
  refine wp_iaddr dL_law_137 (by omega) ?_
  refine wp_sld dL_law_138 (by omega) (hsc _) ?_
  refine wp_aload_n dL_law_139 rfl rfl (by first | exact Or.inl (by decide) | exact Or.inr (by decide)) ?_
  refine wp_iload_n dL_law_140 rfl rfl ?_
  refine wp_iconst dL_law_141 (by decide) ?_
  refine wp_iaddr dL_law_142 (by omega) ?_
  refine wp_sld dL_law_143 (by omega) (hsc _) ?_
  refine wp_aload_n dL_law_144 rfl rfl (by first | exact Or.inl (by decide) | exact Or.inr (by decide)) ?_
  refine wp_pc (pc' := 145) rfl ?_
  refine wp_iload_n dL_law_145 rfl rfl ?_
  refine wp_iconst dL_law_146 (by decide) ?_
  refine wp_iaddr dL_law_147 (by omega) ?_
  refine wp_sld dL_law_148 (by omega) (hsc _) ?_
  refine wp_aload_n dL_law_149 rfl rfl (by first | exact Or.inl (by decide) | exact Or.inr (by decide)) ?_
  refine wp_iload_n dL_law_150 rfl rfl ?_
  refine wp_iconst dL_law_151 (by decide) ?_
  refine wp_iaddr dL_law_152 (by omega) ?_
  refine wp_pc (pc' := 153) rfl ?_
  refine wp_sld dL_law_153 (by omega) (hsc _) ?_
  refine wp_aload_n dL_law_154 rfl rfl (by first | exact Or.inl (by decide) | exact Or.inr (by decide)) ?_
  refine wp_iload_n dL_law_155 rfl rfl ?_
  refine wp_iconst dL_law_156 (by decide) ?_
  refine wp_iaddr dL_law_157 (by omega) ?_
  refine wp_sld dL_law_158 (by omega) (hsc _) ?_
  refine wp_cVq (n := 5) (mt' := mX12_feed) (as := [vI (cs.2.2.2.2.2.1 (i + 1).toNat), vI (cs.2.2.2.2.2.1 (i + 2).toNat), vI (cs.2.2.2.2.2.1 (i + 3).toNat), vI (cs.2.2.2.2.2.1 (i + 4).toNat), vI (cs.2.2.2.2.2.1 (i + 5).toNat)]) (rest := [vI a]) _ dL_law_159 lL_17 kX12_feed vX12_feed (by decide) (by decide +kernel) rfl (Nat.le_of_ble_eq_true rfl) (by decide) rfl rfl rfl (Nat.le_of_ble_eq_true rfl) (fun hM hS => hq) (fun r M hq hM => ?_)
  obtain ⟨rfl, hI⟩ := hq
  exact wp_icmp_eq (tgt := 526) dL_law_162 (by decide) (fun _ => h M hI) (fun z => absurd rfl z)
theorem law_1 (hn : cs.2.2.2.2.1 ≤ 3072) (h0 : 0 ≤ i) (hi : i + 6 ≤ (cs.2.2.2.2.1 : Int)) (hsc : ∀ k, -2147483648 ≤ cs.2.2.2.2.2.1 k ∧ cs.2.2.2.2.2.1 k < 2147483648) (hI : InvM M) (h : ∀ M, InvM M → wp cs mL_law KD Q 526 (LL i) [] (KD, M)) : wp cs mL_law KD Q 167 (LL i) [] (KD, M) := by
  refine wp_aload_n dL_law_167 rfl rfl (by first | exact Or.inl (by decide) | exact Or.inr (by decide)) ?_
  refine wp_aload_n dL_law_168 rfl rfl (by first | exact Or.inl (by decide) | exact Or.inr (by decide)) ?_
  refine wp_iload_n dL_law_169 rfl rfl ?_
  refine wp_iconst dL_law_170 (by decide) ?_
  refine wp_iaddr dL_law_171 (by omega) ?_
  refine wp_sld dL_law_172 (by omega) (hsc _) ?_
  refine wp_cVq (n := 1) (mt' := mX11_read) (as := [vI (cs.2.2.2.2.2.1 (i + 1).toNat)]) (rest := []) _ dL_law_173 lL_18 kX11_read vX11_read (by decide) (by decide +kernel) rfl (Nat.le_of_ble_eq_true rfl) (by decide) rfl rfl rfl (Nat.le_of_ble_eq_true rfl) (fun hM hS => (b_read M hI)) (fun r M hq hM => ?_)
  obtain ⟨a, rfl, hq⟩ := hq
  refine wp_pc (pc' := 176) rfl ?_
  refine wp_aload_n dL_law_176 rfl rfl (by first | exact Or.inl (by decide) | exact Or.inr (by decide)) ?_
  refine wp_aload_n dL_law_177 rfl rfl (by first | exact Or.inl (by decide) | exact Or.inr (by decide)) ?_
  refine wp_iload_n dL_law_178 rfl rfl ?_
  refine wp_iconst dL_law_179 (by decide) ?_
  refine wp_iaddr dL_law_180 (by omega) ?_
  refine wp_sld dL_law_181 (by omega) (hsc _) ?_
  refine wp_cVq (n := 1) (mt' := mX12_read) (as := [vI (cs.2.2.2.2.2.1 (i + 1).toNat)]) (rest := [vI a]) _ dL_law_182 lL_22 kX12_read vX12_read (by decide) (by decide +kernel) rfl (Nat.le_of_ble_eq_true rfl) (by decide) rfl rfl rfl (Nat.le_of_ble_eq_true rfl) (fun hM hS => hq) (fun r M hq hM => ?_)
  obtain ⟨rfl, hI⟩ := hq
  exact wp_icmp_eq (tgt := 526) dL_law_185 (by decide) (fun _ => h M hI) (fun z => absurd rfl z)
theorem law_2 (hn : cs.2.2.2.2.1 ≤ 3072) (h0 : 0 ≤ i) (hi : i + 6 ≤ (cs.2.2.2.2.1 : Int)) (hsc : ∀ k, -2147483648 ≤ cs.2.2.2.2.2.1 k ∧ cs.2.2.2.2.2.1 k < 2147483648) (hI : InvM M) (h : ∀ M, InvM M → wp cs mL_law KD Q 526 (LL i) [] (KD, M)) : wp cs mL_law KD Q 190 (LL i) [] (KD, M) := by
  refine wp_aload_n dL_law_190 rfl rfl (by first | exact Or.inl (by decide) | exact Or.inr (by decide)) ?_
  refine wp_cVq (n := 0) (mt' := mX11_place) (as := []) (rest := []) _ dL_law_191 lL_23 kX11_place vX11_place (by decide) (by decide +kernel) rfl (Nat.le_of_ble_eq_true rfl) (by decide) rfl rfl rfl (Nat.le_of_ble_eq_true rfl) (fun hM hS => (b_place M hI)) (fun r M hq hM => ?_)
  obtain ⟨a, rfl, hq⟩ := hq
  refine wp_aload_n dL_law_194 rfl rfl (by first | exact Or.inl (by decide) | exact Or.inr (by decide)) ?_
  refine wp_cVq (n := 0) (mt' := mX12_place) (as := []) (rest := [vI a]) _ dL_law_195 lL_27 kX12_place vX12_place (by decide) (by decide +kernel) rfl (Nat.le_of_ble_eq_true rfl) (by decide) rfl rfl rfl (Nat.le_of_ble_eq_true rfl) (fun hM hS => hq) (fun r M hq hM => ?_)
  obtain ⟨rfl, hI⟩ := hq
  exact wp_icmp_eq (tgt := 526) dL_law_198 (by decide) (fun _ => h M hI) (fun z => absurd rfl z)
theorem law_3 (hn : cs.2.2.2.2.1 ≤ 3072) (h0 : 0 ≤ i) (hi : i + 6 ≤ (cs.2.2.2.2.1 : Int)) (hsc : ∀ k, -2147483648 ≤ cs.2.2.2.2.2.1 k ∧ cs.2.2.2.2.2.1 k < 2147483648) (hI : InvM M) (h : ∀ M, InvM M → wp cs mL_law KD Q 526 (LL i) [] (KD, M)) : wp cs mL_law KD Q 203 (LL i) [] (KD, M) := by
  refine wp_aload_n dL_law_203 rfl rfl (by first | exact Or.inl (by decide) | exact Or.inr (by decide)) ?_
  refine wp_aload_n dL_law_204 rfl rfl (by first | exact Or.inl (by decide) | exact Or.inr (by decide)) ?_
  refine wp_iload_n dL_law_205 rfl rfl ?_
  refine wp_iconst dL_law_206 (by decide) ?_
  refine wp_iaddr dL_law_207 (by omega) ?_
  refine wp_sld dL_law_208 (by omega) (hsc _) ?_
  refine wp_aload_n dL_law_209 rfl rfl (by first | exact Or.inl (by decide) | exact Or.inr (by decide)) ?_
  refine wp_pc (pc' := 210) rfl ?_
  refine wp_iload_n dL_law_210 rfl rfl ?_
  refine wp_iconst dL_law_211 (by decide) ?_
  refine wp_iaddr dL_law_212 (by omega) ?_
  refine wp_sld dL_law_213 (by omega) (hsc _) ?_
  refine wp_cVq (n := 2) (mt' := mX11_node) (as := [vI (cs.2.2.2.2.2.1 (i + 1).toNat), vI (cs.2.2.2.2.2.1 (i + 2).toNat)]) (rest := []) _ dL_law_214 lL_28 kX11_node vX11_node (by decide) (by decide +kernel) rfl (Nat.le_of_ble_eq_true rfl) (by decide) rfl rfl rfl (Nat.le_of_ble_eq_true rfl) (fun hM hS => (b_node M hI)) (fun r M hq hM => ?_)
  obtain ⟨a, rfl, hq⟩ := hq
  refine wp_aload_n dL_law_217 rfl rfl (by first | exact Or.inl (by decide) | exact Or.inr (by decide)) ?_
  refine wp_aload_n dL_law_218 rfl rfl (by first | exact Or.inl (by decide) | exact Or.inr (by decide)) ?_
  refine wp_iload_n dL_law_219 rfl rfl ?_
  refine wp_pc (pc' := 220) rfl ?_
  refine wp_iconst dL_law_220 (by decide) ?_
  refine wp_iaddr dL_law_221 (by omega) ?_
  refine wp_sld dL_law_222 (by omega) (hsc _) ?_
  refine wp_aload_n dL_law_223 rfl rfl (by first | exact Or.inl (by decide) | exact Or.inr (by decide)) ?_
  refine wp_iload_n dL_law_224 rfl rfl ?_
  refine wp_iconst dL_law_225 (by decide) ?_
  refine wp_iaddr dL_law_226 (by omega) ?_
  refine wp_sld dL_law_227 (by omega) (hsc _) ?_
  refine wp_pc (pc' := 228) rfl ?_
  refine wp_cVq (n := 2) (mt' := mX12_node) (as := [vI (cs.2.2.2.2.2.1 (i + 1).toNat), vI (cs.2.2.2.2.2.1 (i + 2).toNat)]) (rest := [vI a]) _ dL_law_228 lL_32 kX12_node vX12_node (by decide) (by decide +kernel) rfl (Nat.le_of_ble_eq_true rfl) (by decide) rfl rfl rfl (Nat.le_of_ble_eq_true rfl) (fun hM hS => hq) (fun r M hq hM => ?_)
  obtain ⟨rfl, hI⟩ := hq
  exact wp_icmp_eq (tgt := 526) dL_law_231 (by decide) (fun _ => h M hI) (fun z => absurd rfl z)
theorem law_4 (hn : cs.2.2.2.2.1 ≤ 3072) (h0 : 0 ≤ i) (hi : i + 6 ≤ (cs.2.2.2.2.1 : Int)) (hsc : ∀ k, -2147483648 ≤ cs.2.2.2.2.2.1 k ∧ cs.2.2.2.2.2.1 k < 2147483648) (hI : InvM M) (h : ∀ M, InvM M → wp cs mL_law KD Q 526 (LL i) [] (KD, M)) : wp cs mL_law KD Q 236 (LL i) [] (KD, M) := by
  refine wp_aload_n dL_law_236 rfl rfl (by first | exact Or.inl (by decide) | exact Or.inr (by decide)) ?_
  refine wp_aload_n dL_law_237 rfl rfl (by first | exact Or.inl (by decide) | exact Or.inr (by decide)) ?_
  refine wp_iload_n dL_law_238 rfl rfl ?_
  refine wp_iconst dL_law_239 (by decide) ?_
  refine wp_iaddr dL_law_240 (by omega) ?_
  refine wp_sld dL_law_241 (by omega) (hsc _) ?_
  refine wp_aload_n dL_law_242 rfl rfl (by first | exact Or.inl (by decide) | exact Or.inr (by decide)) ?_
  refine wp_pc (pc' := 243) rfl ?_
  refine wp_iload_n dL_law_243 rfl rfl ?_
  refine wp_iconst dL_law_244 (by decide) ?_
  refine wp_iaddr dL_law_245 (by omega) ?_
  refine wp_sld dL_law_246 (by omega) (hsc _) ?_
  refine wp_cVq (n := 2) (mt' := mX11_name) (as := [vI (cs.2.2.2.2.2.1 (i + 1).toNat), vI (cs.2.2.2.2.2.1 (i + 2).toNat)]) (rest := []) _ dL_law_247 lL_33 kX11_name vX11_name (by decide) (by decide +kernel) rfl (Nat.le_of_ble_eq_true rfl) (by decide) rfl rfl rfl (Nat.le_of_ble_eq_true rfl) (fun hM hS => (b_name (hsc _) M hI)) (fun r M hq hM => ?_)
  obtain ⟨a, rfl, hq⟩ := hq
  refine wp_aload_n dL_law_250 rfl rfl (by first | exact Or.inl (by decide) | exact Or.inr (by decide)) ?_
  refine wp_aload_n dL_law_251 rfl rfl (by first | exact Or.inl (by decide) | exact Or.inr (by decide)) ?_
  refine wp_iload_n dL_law_252 rfl rfl ?_
  refine wp_pc (pc' := 253) rfl ?_
  refine wp_iconst dL_law_253 (by decide) ?_
  refine wp_iaddr dL_law_254 (by omega) ?_
  refine wp_sld dL_law_255 (by omega) (hsc _) ?_
  refine wp_aload_n dL_law_256 rfl rfl (by first | exact Or.inl (by decide) | exact Or.inr (by decide)) ?_
  refine wp_iload_n dL_law_257 rfl rfl ?_
  refine wp_iconst dL_law_258 (by decide) ?_
  refine wp_iaddr dL_law_259 (by omega) ?_
  refine wp_sld dL_law_260 (by omega) (hsc _) ?_
  refine wp_pc (pc' := 261) rfl ?_
  refine wp_cVq (n := 2) (mt' := mX12_name) (as := [vI (cs.2.2.2.2.2.1 (i + 1).toNat), vI (cs.2.2.2.2.2.1 (i + 2).toNat)]) (rest := [vI a]) _ dL_law_261 lL_36 kX12_name vX12_name (by decide) (by decide +kernel) rfl (Nat.le_of_ble_eq_true rfl) (by decide) rfl rfl rfl (Nat.le_of_ble_eq_true rfl) (fun hM hS => hq) (fun r M hq hM => ?_)
  obtain ⟨rfl, hI⟩ := hq
  exact wp_icmp_eq (tgt := 526) dL_law_264 (by decide) (fun _ => h M hI) (fun z => absurd rfl z)
theorem law_5 (hn : cs.2.2.2.2.1 ≤ 3072) (h0 : 0 ≤ i) (hi : i + 6 ≤ (cs.2.2.2.2.1 : Int)) (hsc : ∀ k, -2147483648 ≤ cs.2.2.2.2.2.1 k ∧ cs.2.2.2.2.2.1 k < 2147483648) (hI : InvM M) (h : ∀ M, InvM M → wp cs mL_law KD Q 526 (LL i) [] (KD, M)) : wp cs mL_law KD Q 269 (LL i) [] (KD, M) := by
  refine wp_aload_n dL_law_269 rfl rfl (by first | exact Or.inl (by decide) | exact Or.inr (by decide)) ?_
  refine wp_aload_n dL_law_270 rfl rfl (by first | exact Or.inl (by decide) | exact Or.inr (by decide)) ?_
  refine wp_iload_n dL_law_271 rfl rfl ?_
  refine wp_iconst dL_law_272 (by decide) ?_
  refine wp_iaddr dL_law_273 (by omega) ?_
  refine wp_sld dL_law_274 (by omega) (hsc _) ?_
  refine wp_aload_n dL_law_275 rfl rfl (by first | exact Or.inl (by decide) | exact Or.inr (by decide)) ?_
  refine wp_pc (pc' := 276) rfl ?_
  refine wp_iload_n dL_law_276 rfl rfl ?_
  refine wp_iconst dL_law_277 (by decide) ?_
  refine wp_iaddr dL_law_278 (by omega) ?_
  refine wp_sld dL_law_279 (by omega) (hsc _) ?_
  refine wp_cVq (n := 2) (mt' := mX11_string) (as := [vI (cs.2.2.2.2.2.1 (i + 1).toNat), vI (cs.2.2.2.2.2.1 (i + 2).toNat)]) (rest := []) _ dL_law_280 lL_37 kX11_string vX11_string (by decide) (by decide +kernel) rfl (Nat.le_of_ble_eq_true rfl) (by decide) rfl rfl rfl (Nat.le_of_ble_eq_true rfl) (fun hM hS => (b_string (hsc _) M hI)) (fun r M hq hM => ?_)
  obtain ⟨a, rfl, hq⟩ := hq
  refine wp_aload_n dL_law_283 rfl rfl (by first | exact Or.inl (by decide) | exact Or.inr (by decide)) ?_
  refine wp_aload_n dL_law_284 rfl rfl (by first | exact Or.inl (by decide) | exact Or.inr (by decide)) ?_
  refine wp_iload_n dL_law_285 rfl rfl ?_
  refine wp_pc (pc' := 286) rfl ?_
  refine wp_iconst dL_law_286 (by decide) ?_
  refine wp_iaddr dL_law_287 (by omega) ?_
  refine wp_sld dL_law_288 (by omega) (hsc _) ?_
  refine wp_aload_n dL_law_289 rfl rfl (by first | exact Or.inl (by decide) | exact Or.inr (by decide)) ?_
  refine wp_iload_n dL_law_290 rfl rfl ?_
  refine wp_iconst dL_law_291 (by decide) ?_
  refine wp_iaddr dL_law_292 (by omega) ?_
  refine wp_sld dL_law_293 (by omega) (hsc _) ?_
  refine wp_pc (pc' := 294) rfl ?_
  refine wp_cVq (n := 2) (mt' := mX12_string) (as := [vI (cs.2.2.2.2.2.1 (i + 1).toNat), vI (cs.2.2.2.2.2.1 (i + 2).toNat)]) (rest := [vI a]) _ dL_law_294 lL_40 kX12_string vX12_string (by decide) (by decide +kernel) rfl (Nat.le_of_ble_eq_true rfl) (by decide) rfl rfl rfl (Nat.le_of_ble_eq_true rfl) (fun hM hS => hq) (fun r M hq hM => ?_)
  obtain ⟨rfl, hI⟩ := hq
  exact wp_icmp_eq (tgt := 526) dL_law_297 (by decide) (fun _ => h M hI) (fun z => absurd rfl z)
theorem law_6 (hn : cs.2.2.2.2.1 ≤ 3072) (h0 : 0 ≤ i) (hi : i + 6 ≤ (cs.2.2.2.2.1 : Int)) (hsc : ∀ k, -2147483648 ≤ cs.2.2.2.2.2.1 k ∧ cs.2.2.2.2.2.1 k < 2147483648) (hI : InvM M) (h : ∀ M, InvM M → wp cs mL_law KD Q 526 (LL i) [] (KD, M)) : wp cs mL_law KD Q 302 (LL i) [] (KD, M) := by
  refine wp_aload_n dL_law_302 rfl rfl (by first | exact Or.inl (by decide) | exact Or.inr (by decide)) ?_
  refine wp_cVq (n := 0) (mt' := mX11_findings) (as := []) (rest := []) _ dL_law_303 lL_41 kX11_findings vX11_findings (by decide) (by decide +kernel) rfl (Nat.le_of_ble_eq_true rfl) (by decide) rfl rfl rfl (Nat.le_of_ble_eq_true rfl) (fun hM hS => (b_findings M hI)) (fun r M hq hM => ?_)
  obtain ⟨a, rfl, hq⟩ := hq
  refine wp_aload_n dL_law_306 rfl rfl (by first | exact Or.inl (by decide) | exact Or.inr (by decide)) ?_
  refine wp_cVq (n := 0) (mt' := mX12_findings) (as := []) (rest := [vI a]) _ dL_law_307 lL_44 kX12_findings vX12_findings (by decide) (by decide +kernel) rfl (Nat.le_of_ble_eq_true rfl) (by decide) rfl rfl rfl (Nat.le_of_ble_eq_true rfl) (fun hM hS => hq) (fun r M hq hM => ?_)
  obtain ⟨rfl, hI⟩ := hq
  exact wp_icmp_eq (tgt := 526) dL_law_310 (by decide) (fun _ => h M hI) (fun z => absurd rfl z)
theorem law_7 (hn : cs.2.2.2.2.1 ≤ 3072) (h0 : 0 ≤ i) (hi : i + 6 ≤ (cs.2.2.2.2.1 : Int)) (hsc : ∀ k, -2147483648 ≤ cs.2.2.2.2.2.1 k ∧ cs.2.2.2.2.2.1 k < 2147483648) (hI : InvM M) (h : ∀ M, InvM M → wp cs mL_law KD Q 526 (LL i) [] (KD, M)) : wp cs mL_law KD Q 315 (LL i) [] (KD, M) := by
  refine wp_aload_n dL_law_315 rfl rfl (by first | exact Or.inl (by decide) | exact Or.inr (by decide)) ?_
  refine wp_aload_n dL_law_316 rfl rfl (by first | exact Or.inl (by decide) | exact Or.inr (by decide)) ?_
  refine wp_iload_n dL_law_317 rfl rfl ?_
  refine wp_iconst dL_law_318 (by decide) ?_
  refine wp_iaddr dL_law_319 (by omega) ?_
  refine wp_sld dL_law_320 (by omega) (hsc _) ?_
  refine wp_aload_n dL_law_321 rfl rfl (by first | exact Or.inl (by decide) | exact Or.inr (by decide)) ?_
  refine wp_pc (pc' := 322) rfl ?_
  refine wp_iload_n dL_law_322 rfl rfl ?_
  refine wp_iconst dL_law_323 (by decide) ?_
  refine wp_iaddr dL_law_324 (by omega) ?_
  refine wp_sld dL_law_325 (by omega) (hsc _) ?_
  refine wp_cVq (n := 2) (mt' := mX11_finding) (as := [vI (cs.2.2.2.2.2.1 (i + 1).toNat), vI (cs.2.2.2.2.2.1 (i + 2).toNat)]) (rest := []) _ dL_law_326 lL_45 kX11_finding vX11_finding (by decide) (by decide +kernel) rfl (Nat.le_of_ble_eq_true rfl) (by decide) rfl rfl rfl (Nat.le_of_ble_eq_true rfl) (fun hM hS => (b_finding M hI)) (fun r M hq hM => ?_)
  obtain ⟨a, rfl, hq⟩ := hq
  refine wp_aload_n dL_law_329 rfl rfl (by first | exact Or.inl (by decide) | exact Or.inr (by decide)) ?_
  refine wp_aload_n dL_law_330 rfl rfl (by first | exact Or.inl (by decide) | exact Or.inr (by decide)) ?_
  refine wp_iload_n dL_law_331 rfl rfl ?_
  refine wp_pc (pc' := 332) rfl ?_
  refine wp_iconst dL_law_332 (by decide) ?_
  refine wp_iaddr dL_law_333 (by omega) ?_
  refine wp_sld dL_law_334 (by omega) (hsc _) ?_
  refine wp_aload_n dL_law_335 rfl rfl (by first | exact Or.inl (by decide) | exact Or.inr (by decide)) ?_
  refine wp_iload_n dL_law_336 rfl rfl ?_
  refine wp_iconst dL_law_337 (by decide) ?_
  refine wp_iaddr dL_law_338 (by omega) ?_
  refine wp_sld dL_law_339 (by omega) (hsc _) ?_
  refine wp_pc (pc' := 340) rfl ?_
  refine wp_cVq (n := 2) (mt' := mX12_finding) (as := [vI (cs.2.2.2.2.2.1 (i + 1).toNat), vI (cs.2.2.2.2.2.1 (i + 2).toNat)]) (rest := [vI a]) _ dL_law_340 lL_48 kX12_finding vX12_finding (by decide) (by decide +kernel) rfl (Nat.le_of_ble_eq_true rfl) (by decide) rfl rfl rfl (Nat.le_of_ble_eq_true rfl) (fun hM hS => hq) (fun r M hq hM => ?_)
  obtain ⟨rfl, hI⟩ := hq
  exact wp_icmp_eq (tgt := 526) dL_law_343 (by decide) (fun _ => h M hI) (fun z => absurd rfl z)
theorem law_8 (hn : cs.2.2.2.2.1 ≤ 3072) (h0 : 0 ≤ i) (hi : i + 6 ≤ (cs.2.2.2.2.1 : Int)) (hsc : ∀ k, -2147483648 ≤ cs.2.2.2.2.2.1 k ∧ cs.2.2.2.2.2.1 k < 2147483648) (hI : InvM M) (h : ∀ M, InvM M → wp cs mL_law KD Q 526 (LL i) [] (KD, M)) : wp cs mL_law KD Q 348 (LL i) [] (KD, M) := by
  refine wp_aload_n dL_law_348 rfl rfl (by first | exact Or.inl (by decide) | exact Or.inr (by decide)) ?_
  refine wp_aload_n dL_law_349 rfl rfl (by first | exact Or.inl (by decide) | exact Or.inr (by decide)) ?_
  refine wp_iload_n dL_law_350 rfl rfl ?_
  refine wp_iconst dL_law_351 (by decide) ?_
  refine wp_iaddr dL_law_352 (by omega) ?_
  refine wp_sld dL_law_353 (by omega) (hsc _) ?_
  refine wp_aload_n dL_law_354 rfl rfl (by first | exact Or.inl (by decide) | exact Or.inr (by decide)) ?_
  refine wp_pc (pc' := 355) rfl ?_
  refine wp_iload_n dL_law_355 rfl rfl ?_
  refine wp_iconst dL_law_356 (by decide) ?_
  refine wp_iaddr dL_law_357 (by omega) ?_
  refine wp_sld dL_law_358 (by omega) (hsc _) ?_
  refine wp_cVq (n := 2) (mt' := mX11_select) (as := [vI (cs.2.2.2.2.2.1 (i + 1).toNat), vI (cs.2.2.2.2.2.1 (i + 2).toNat)]) (rest := []) _ dL_law_359 lL_49 kX11_select vX11_select (by decide) (by decide +kernel) rfl (Nat.le_of_ble_eq_true rfl) (by decide) rfl rfl rfl (Nat.le_of_ble_eq_true rfl) (fun hM hS => (b_select M hI)) (fun r M hq hM => ?_)
  obtain ⟨a, rfl, hq⟩ := hq
  refine wp_aload_n dL_law_362 rfl rfl (by first | exact Or.inl (by decide) | exact Or.inr (by decide)) ?_
  refine wp_aload_n dL_law_363 rfl rfl (by first | exact Or.inl (by decide) | exact Or.inr (by decide)) ?_
  refine wp_iload_n dL_law_364 rfl rfl ?_
  refine wp_pc (pc' := 365) rfl ?_
  refine wp_iconst dL_law_365 (by decide) ?_
  refine wp_iaddr dL_law_366 (by omega) ?_
  refine wp_sld dL_law_367 (by omega) (hsc _) ?_
  refine wp_aload_n dL_law_368 rfl rfl (by first | exact Or.inl (by decide) | exact Or.inr (by decide)) ?_
  refine wp_iload_n dL_law_369 rfl rfl ?_
  refine wp_iconst dL_law_370 (by decide) ?_
  refine wp_iaddr dL_law_371 (by omega) ?_
  refine wp_sld dL_law_372 (by omega) (hsc _) ?_
  refine wp_pc (pc' := 373) rfl ?_
  refine wp_cVq (n := 2) (mt' := mX12_select) (as := [vI (cs.2.2.2.2.2.1 (i + 1).toNat), vI (cs.2.2.2.2.2.1 (i + 2).toNat)]) (rest := [vI a]) _ dL_law_373 lL_52 kX12_select vX12_select (by decide) (by decide +kernel) rfl (Nat.le_of_ble_eq_true rfl) (by decide) rfl rfl rfl (Nat.le_of_ble_eq_true rfl) (fun hM hS => hq) (fun r M hq hM => ?_)
  obtain ⟨rfl, hI⟩ := hq
  exact wp_icmp_eq (tgt := 526) dL_law_376 (by decide) (fun _ => h M hI) (fun z => absurd rfl z)
theorem law_9 (hn : cs.2.2.2.2.1 ≤ 3072) (h0 : 0 ≤ i) (hi : i + 6 ≤ (cs.2.2.2.2.1 : Int)) (hsc : ∀ k, -2147483648 ≤ cs.2.2.2.2.2.1 k ∧ cs.2.2.2.2.2.1 k < 2147483648) (hI : InvM M) (h : ∀ M, InvM M → wp cs mL_law KD Q 526 (LL i) [] (KD, M)) : wp cs mL_law KD Q 381 (LL i) [] (KD, M) := by
  refine wp_aload_n dL_law_381 rfl rfl (by first | exact Or.inl (by decide) | exact Or.inr (by decide)) ?_
  refine wp_aload_n dL_law_382 rfl rfl (by first | exact Or.inl (by decide) | exact Or.inr (by decide)) ?_
  refine wp_iload_n dL_law_383 rfl rfl ?_
  refine wp_iconst dL_law_384 (by decide) ?_
  refine wp_iaddr dL_law_385 (by omega) ?_
  refine wp_sld dL_law_386 (by omega) (hsc _) ?_
  refine wp_cVq (n := 1) (mt' := mX11_told) (as := [vI (cs.2.2.2.2.2.1 (i + 1).toNat)]) (rest := []) _ dL_law_387 lL_53 kX11_told vX11_told (by decide) (by decide +kernel) rfl (Nat.le_of_ble_eq_true rfl) (by decide) rfl rfl rfl (Nat.le_of_ble_eq_true rfl) (fun hM hS => (b_told M hI)) (fun r M hq hM => ?_)
  obtain ⟨a, rfl, hq⟩ := hq
  refine wp_pc (pc' := 390) rfl ?_
  refine wp_aload_n dL_law_390 rfl rfl (by first | exact Or.inl (by decide) | exact Or.inr (by decide)) ?_
  refine wp_aload_n dL_law_391 rfl rfl (by first | exact Or.inl (by decide) | exact Or.inr (by decide)) ?_
  refine wp_iload_n dL_law_392 rfl rfl ?_
  refine wp_iconst dL_law_393 (by decide) ?_
  refine wp_iaddr dL_law_394 (by omega) ?_
  refine wp_sld dL_law_395 (by omega) (hsc _) ?_
  refine wp_cVq (n := 1) (mt' := mX12_told) (as := [vI (cs.2.2.2.2.2.1 (i + 1).toNat)]) (rest := [vI a]) _ dL_law_396 lL_56 kX12_told vX12_told (by decide) (by decide +kernel) rfl (Nat.le_of_ble_eq_true rfl) (by decide) rfl rfl rfl (Nat.le_of_ble_eq_true rfl) (fun hM hS => hq) (fun r M hq hM => ?_)
  obtain ⟨rfl, hI⟩ := hq
  exact wp_icmp_eq (tgt := 526) dL_law_399 (by decide) (fun _ => h M hI) (fun z => absurd rfl z)
theorem law_10 (hn : cs.2.2.2.2.1 ≤ 3072) (h0 : 0 ≤ i) (hi : i + 6 ≤ (cs.2.2.2.2.1 : Int)) (hsc : ∀ k, -2147483648 ≤ cs.2.2.2.2.2.1 k ∧ cs.2.2.2.2.2.1 k < 2147483648) (hI : InvM M) (h : ∀ M, InvM M → wp cs mL_law KD Q 526 (LL i) [] (KD, M)) : wp cs mL_law KD Q 404 (LL i) [] (KD, M) := by
  refine wp_aload_n dL_law_404 rfl rfl (by first | exact Or.inl (by decide) | exact Or.inr (by decide)) ?_
  refine wp_aload_n dL_law_405 rfl rfl (by first | exact Or.inl (by decide) | exact Or.inr (by decide)) ?_
  refine wp_iload_n dL_law_406 rfl rfl ?_
  refine wp_iconst dL_law_407 (by decide) ?_
  refine wp_iaddr dL_law_408 (by omega) ?_
  refine wp_sld dL_law_409 (by omega) (hsc _) ?_
  refine wp_aload_n dL_law_410 rfl rfl (by first | exact Or.inl (by decide) | exact Or.inr (by decide)) ?_
  refine wp_pc (pc' := 411) rfl ?_
  refine wp_iload_n dL_law_411 rfl rfl ?_
  refine wp_iconst dL_law_412 (by decide) ?_
  refine wp_iaddr dL_law_413 (by omega) ?_
  refine wp_sld dL_law_414 (by omega) (hsc _) ?_
  refine wp_cVq (n := 2) (mt' := mX11_set) (as := [vI (cs.2.2.2.2.2.1 (i + 1).toNat), vI (cs.2.2.2.2.2.1 (i + 2).toNat)]) (rest := []) _ dL_law_415 lL_57 kX11_set vX11_set (by decide) (by decide +kernel) rfl (Nat.le_of_ble_eq_true rfl) (by decide) rfl rfl rfl (Nat.le_of_ble_eq_true rfl) (fun hM hS => (b_set M hI)) (fun r M hq hM => ?_)
  obtain ⟨a, rfl, hq⟩ := hq
  refine wp_aload_n dL_law_418 rfl rfl (by first | exact Or.inl (by decide) | exact Or.inr (by decide)) ?_
  refine wp_aload_n dL_law_419 rfl rfl (by first | exact Or.inl (by decide) | exact Or.inr (by decide)) ?_
  refine wp_iload_n dL_law_420 rfl rfl ?_
  refine wp_pc (pc' := 421) rfl ?_
  refine wp_iconst dL_law_421 (by decide) ?_
  refine wp_iaddr dL_law_422 (by omega) ?_
  refine wp_sld dL_law_423 (by omega) (hsc _) ?_
  refine wp_aload_n dL_law_424 rfl rfl (by first | exact Or.inl (by decide) | exact Or.inr (by decide)) ?_
  refine wp_iload_n dL_law_425 rfl rfl ?_
  refine wp_iconst dL_law_426 (by decide) ?_
  refine wp_iaddr dL_law_427 (by omega) ?_
  refine wp_sld dL_law_428 (by omega) (hsc _) ?_
  refine wp_pc (pc' := 429) rfl ?_
  refine wp_cVq (n := 2) (mt' := mX12_set) (as := [vI (cs.2.2.2.2.2.1 (i + 1).toNat), vI (cs.2.2.2.2.2.1 (i + 2).toNat)]) (rest := [vI a]) _ dL_law_429 lL_60 kX12_set vX12_set (by decide) (by decide +kernel) rfl (Nat.le_of_ble_eq_true rfl) (by decide) rfl rfl rfl (Nat.le_of_ble_eq_true rfl) (fun hM hS => hq) (fun r M hq hM => ?_)
  obtain ⟨rfl, hI⟩ := hq
  exact wp_icmp_eq (tgt := 526) dL_law_432 (by decide) (fun _ => h M hI) (fun z => absurd rfl z)
theorem law_11 (hn : cs.2.2.2.2.1 ≤ 3072) (h0 : 0 ≤ i) (hi : i + 6 ≤ (cs.2.2.2.2.1 : Int)) (hsc : ∀ k, -2147483648 ≤ cs.2.2.2.2.2.1 k ∧ cs.2.2.2.2.2.1 k < 2147483648) (hI : InvM M) (h : ∀ M, InvM M → wp cs mL_law KD Q 526 (LL i) [] (KD, M)) : wp cs mL_law KD Q 437 (LL i) [] (KD, M) := by
  refine wp_aload_n dL_law_437 rfl rfl (by first | exact Or.inl (by decide) | exact Or.inr (by decide)) ?_
  refine wp_aload_n dL_law_438 rfl rfl (by first | exact Or.inl (by decide) | exact Or.inr (by decide)) ?_
  refine wp_iload_n dL_law_439 rfl rfl ?_
  refine wp_iconst dL_law_440 (by decide) ?_
  refine wp_iaddr dL_law_441 (by omega) ?_
  refine wp_sld dL_law_442 (by omega) (hsc _) ?_
  refine wp_aload_n dL_law_443 rfl rfl (by first | exact Or.inl (by decide) | exact Or.inr (by decide)) ?_
  refine wp_pc (pc' := 444) rfl ?_
  refine wp_iload_n dL_law_444 rfl rfl ?_
  refine wp_iconst dL_law_445 (by decide) ?_
  refine wp_iaddr dL_law_446 (by omega) ?_
  refine wp_sld dL_law_447 (by omega) (hsc _) ?_
  refine wp_cVq (n := 2) (mt' := mX11_line) (as := [vI (cs.2.2.2.2.2.1 (i + 1).toNat), vI (cs.2.2.2.2.2.1 (i + 2).toNat)]) (rest := []) _ dL_law_448 lL_61 kX11_line vX11_line (by decide) (by decide +kernel) rfl (Nat.le_of_ble_eq_true rfl) (by decide) rfl rfl rfl (Nat.le_of_ble_eq_true rfl) (fun hM hS => (b_line M hI)) (fun r M hq hM => ?_)
  obtain ⟨a, rfl, hq⟩ := hq
  refine wp_aload_n dL_law_451 rfl rfl (by first | exact Or.inl (by decide) | exact Or.inr (by decide)) ?_
  refine wp_aload_n dL_law_452 rfl rfl (by first | exact Or.inl (by decide) | exact Or.inr (by decide)) ?_
  refine wp_iload_n dL_law_453 rfl rfl ?_
  refine wp_pc (pc' := 454) rfl ?_
  refine wp_iconst dL_law_454 (by decide) ?_
  refine wp_iaddr dL_law_455 (by omega) ?_
  refine wp_sld dL_law_456 (by omega) (hsc _) ?_
  refine wp_aload_n dL_law_457 rfl rfl (by first | exact Or.inl (by decide) | exact Or.inr (by decide)) ?_
  refine wp_iload_n dL_law_458 rfl rfl ?_
  refine wp_iconst dL_law_459 (by decide) ?_
  refine wp_iaddr dL_law_460 (by omega) ?_
  refine wp_sld dL_law_461 (by omega) (hsc _) ?_
  refine wp_pc (pc' := 462) rfl ?_
  refine wp_cVq (n := 2) (mt' := mX12_line) (as := [vI (cs.2.2.2.2.2.1 (i + 1).toNat), vI (cs.2.2.2.2.2.1 (i + 2).toNat)]) (rest := [vI a]) _ dL_law_462 lL_64 kX12_line vX12_line (by decide) (by decide +kernel) rfl (Nat.le_of_ble_eq_true rfl) (by decide) rfl rfl rfl (Nat.le_of_ble_eq_true rfl) (fun hM hS => hq) (fun r M hq hM => ?_)
  obtain ⟨rfl, hI⟩ := hq
  exact wp_icmp_eq (tgt := 526) dL_law_465 (by decide) (fun _ => h M hI) (fun z => absurd rfl z)
theorem law_12 (hn : cs.2.2.2.2.1 ≤ 3072) (h0 : 0 ≤ i) (hi : i + 6 ≤ (cs.2.2.2.2.1 : Int)) (hsc : ∀ k, -2147483648 ≤ cs.2.2.2.2.2.1 k ∧ cs.2.2.2.2.2.1 k < 2147483648) (hI : InvM M) (h : ∀ M, InvM M → wp cs mL_law KD Q 526 (LL i) [] (KD, M)) : wp cs mL_law KD Q 470 (LL i) [] (KD, M) := by
  refine wp_aload_n dL_law_470 rfl rfl (by first | exact Or.inl (by decide) | exact Or.inr (by decide)) ?_
  refine wp_aload_n dL_law_471 rfl rfl (by first | exact Or.inl (by decide) | exact Or.inr (by decide)) ?_
  refine wp_iload_n dL_law_472 rfl rfl ?_
  refine wp_iconst dL_law_473 (by decide) ?_
  refine wp_iaddr dL_law_474 (by omega) ?_
  refine wp_sld dL_law_475 (by omega) (hsc _) ?_
  refine wp_aload_n dL_law_476 rfl rfl (by first | exact Or.inl (by decide) | exact Or.inr (by decide)) ?_
  refine wp_pc (pc' := 477) rfl ?_
  refine wp_iload_n dL_law_477 rfl rfl ?_
  refine wp_iconst dL_law_478 (by decide) ?_
  refine wp_iaddr dL_law_479 (by omega) ?_
  refine wp_sld dL_law_480 (by omega) (hsc _) ?_
  refine wp_cVq (n := 2) (mt' := mX11_at) (as := [vI (cs.2.2.2.2.2.1 (i + 1).toNat), vI (cs.2.2.2.2.2.1 (i + 2).toNat)]) (rest := []) _ dL_law_481 lL_65 kX11_at vX11_at (by decide) (by decide +kernel) rfl (Nat.le_of_ble_eq_true rfl) (by decide) rfl rfl rfl (Nat.le_of_ble_eq_true rfl) (fun hM hS => (b_at M hI)) (fun r M hq hM => ?_)
  obtain ⟨a, rfl, hq⟩ := hq
  refine wp_aload_n dL_law_484 rfl rfl (by first | exact Or.inl (by decide) | exact Or.inr (by decide)) ?_
  refine wp_aload_n dL_law_485 rfl rfl (by first | exact Or.inl (by decide) | exact Or.inr (by decide)) ?_
  refine wp_iload_n dL_law_486 rfl rfl ?_
  refine wp_pc (pc' := 487) rfl ?_
  refine wp_iconst dL_law_487 (by decide) ?_
  refine wp_iaddr dL_law_488 (by omega) ?_
  refine wp_sld dL_law_489 (by omega) (hsc _) ?_
  refine wp_aload_n dL_law_490 rfl rfl (by first | exact Or.inl (by decide) | exact Or.inr (by decide)) ?_
  refine wp_iload_n dL_law_491 rfl rfl ?_
  refine wp_iconst dL_law_492 (by decide) ?_
  refine wp_iaddr dL_law_493 (by omega) ?_
  refine wp_sld dL_law_494 (by omega) (hsc _) ?_
  refine wp_pc (pc' := 495) rfl ?_
  refine wp_cVq (n := 2) (mt' := mX12_at) (as := [vI (cs.2.2.2.2.2.1 (i + 1).toNat), vI (cs.2.2.2.2.2.1 (i + 2).toNat)]) (rest := [vI a]) _ dL_law_495 lL_68 kX12_at vX12_at (by decide) (by decide +kernel) rfl (Nat.le_of_ble_eq_true rfl) (by decide) rfl rfl rfl (Nat.le_of_ble_eq_true rfl) (fun hM hS => hq) (fun r M hq hM => ?_)
  obtain ⟨rfl, hI⟩ := hq
  exact wp_icmp_eq (tgt := 526) dL_law_498 (by decide) (fun _ => h M hI) (fun z => absurd rfl z)
theorem law_13 (hn : cs.2.2.2.2.1 ≤ 3072) (h0 : 0 ≤ i) (hi : i + 6 ≤ (cs.2.2.2.2.1 : Int)) (hsc : ∀ k, -2147483648 ≤ cs.2.2.2.2.2.1 k ∧ cs.2.2.2.2.2.1 k < 2147483648) (hI : InvM M) (h : ∀ M, InvM M → wp cs mL_law KD Q 526 (LL i) [] (KD, M)) : wp cs mL_law KD Q 503 (LL i) [] (KD, M) := by
  refine wp_aload_n dL_law_503 rfl rfl (by first | exact Or.inl (by decide) | exact Or.inr (by decide)) ?_
  refine wp_aload_n dL_law_504 rfl rfl (by first | exact Or.inl (by decide) | exact Or.inr (by decide)) ?_
  refine wp_iload_n dL_law_505 rfl rfl ?_
  refine wp_iconst dL_law_506 (by decide) ?_
  refine wp_iaddr dL_law_507 (by omega) ?_
  refine wp_sld dL_law_508 (by omega) (hsc _) ?_
  refine wp_cVq (n := 1) (mt' := mX11_count) (as := [vI (cs.2.2.2.2.2.1 (i + 1).toNat)]) (rest := []) _ dL_law_509 lL_69 kX11_count vX11_count (by decide) (by decide +kernel) rfl (Nat.le_of_ble_eq_true rfl) (by decide) rfl rfl rfl (Nat.le_of_ble_eq_true rfl) (fun hM hS => (b_count M hI)) (fun r M hq hM => ?_)
  obtain ⟨a, rfl, hq⟩ := hq
  refine wp_pc (pc' := 512) rfl ?_
  refine wp_aload_n dL_law_512 rfl rfl (by first | exact Or.inl (by decide) | exact Or.inr (by decide)) ?_
  refine wp_aload_n dL_law_513 rfl rfl (by first | exact Or.inl (by decide) | exact Or.inr (by decide)) ?_
  refine wp_iload_n dL_law_514 rfl rfl ?_
  refine wp_iconst dL_law_515 (by decide) ?_
  refine wp_iaddr dL_law_516 (by omega) ?_
  refine wp_sld dL_law_517 (by omega) (hsc _) ?_
  refine wp_cVq (n := 1) (mt' := mX12_count) (as := [vI (cs.2.2.2.2.2.1 (i + 1).toNat)]) (rest := [vI a]) _ dL_law_518 lL_72 kX12_count vX12_count (by decide) (by decide +kernel) rfl (Nat.le_of_ble_eq_true rfl) (by decide) rfl rfl rfl (Nat.le_of_ble_eq_true rfl) (fun hM hS => hq) (fun r M hq hM => ?_)
  obtain ⟨rfl, hI⟩ := hq
  exact wp_icmp_eq (tgt := 526) dL_law_521 (by decide) (fun _ => h M hI) (fun z => absurd rfl z)
theorem law_loop (hQ : ∀ M, Q (some (vI 1)) M) (hn : cs.2.2.2.2.1 ≤ 3072) (hsc : ∀ k, -2147483648 ≤ cs.2.2.2.2.2.1 k ∧ cs.2.2.2.2.2.1 k < 2147483648) : ∀ (m : Nat) (i : Int) (M : Mm), 0 ≤ i → i ≤ (cs.2.2.2.2.1 : Int) + 6 → (cs.2.2.2.2.1 : Int) < i + m → InvM M → wp cs mL_law KD Q 18 (LL i) [] (KD, M) := by
  intro m
  induction m with
  | zero =>
    intro i M h0 hi6 hm hI
    refine wp_iload_n dL_law_18 rfl rfl ?_
    refine wp_aload_n dL_law_19 rfl rfl (by first | exact Or.inl (by decide) | exact Or.inr (by decide)) ?_
    refine wp_slen dL_law_20 (by omega) ?_
    refine wp_bipush dL_law_21 (by decide +kernel) (by decide) ?_
    refine wp_isubr dL_law_23 (by omega) ?_
    refine wp_icmp_gt (tgt := 532) dL_law_24 (by decide) (fun _ => ?_) (fun z => by omega)
    refine wp_iconst dL_law_532 (by decide) ?_
    exact wp_zret dL_law_533 rfl (by decide) (fun _ => hQ M)
  | succ m ih =>
    intro i M h0 hi6 hm hI
    refine wp_iload_n dL_law_18 rfl rfl ?_
    refine wp_aload_n dL_law_19 rfl rfl (by first | exact Or.inl (by decide) | exact Or.inr (by decide)) ?_
    refine wp_slen dL_law_20 (by omega) ?_
    refine wp_bipush dL_law_21 (by decide +kernel) (by decide) ?_
    refine wp_isubr dL_law_23 (by omega) ?_
    refine wp_icmp_gt (tgt := 532) dL_law_24 (by decide) (fun _ => ?_) (fun hle => ?_)
    · refine wp_iconst dL_law_532 (by decide) ?_
      exact wp_zret dL_law_533 rfl (by decide) (fun _ => hQ M)
    · have hi : i + 6 ≤ (cs.2.2.2.2.1 : Int) := by omega
      have nxt : ∀ M, InvM M → wp cs mL_law KD Q 526 (LL i) [] (KD, M) := by
        intro M hI
        refine wp_iincr dL_law_526 rfl (by decide) (by omega) (wp_L (L' := LL (i + 6)) rfl ?_)
        refine wp_goto (tgt := 18) dL_law_529 (by decide) ?_
        exact ih (i + 6) M (by omega) (by omega) (by omega) hI
      refine wp_pc (pc' := 27) rfl ?_
      refine wp_aload_n dL_law_27 rfl rfl (by first | exact Or.inl (by decide) | exact Or.inr (by decide)) ?_
      refine wp_iload_n dL_law_28 rfl rfl ?_
      refine wp_sld dL_law_29 (by omega) (hsc _) ?_
      refine wp_bipush dL_law_30 (by decide +kernel) (by decide) ?_
      refine wp_iand dL_law_32 ?_
      obtain ⟨v, hv⟩ : ∃ v, v = i_and (cs.2.2.2.2.2.1 i.toNat) 15 := ⟨_, rfl⟩
      rw [← hv]
      refine wp_pc (pc' := 33) rfl ?_
      by_cases hsw : 0 ≤ v ∧ v ≤ 13
      · rcases (by omega : v = 0 ∨ v = 1 ∨ v = 2 ∨ v = 3 ∨ v = 4 ∨ v = 5 ∨ v = 6 ∨ v = 7 ∨ v = 8 ∨ v = 9 ∨ v = 10 ∨ v = 11 ∨ v = 12 ∨ v = 13) with q | q | q | q | q | q | q | q | q | q | q | q | q | q
        · refine wp_topI (x' := 0) q (wp_tableIn (tgt := 104) dL_law_33 (by decide) rfl (by decide) ?_)
          exact law_0 hn h0 hi hsc hI nxt
        · refine wp_topI (x' := 1) q (wp_tableIn (tgt := 167) dL_law_33 (by decide) rfl (by decide) ?_)
          exact law_1 hn h0 hi hsc hI nxt
        · refine wp_topI (x' := 2) q (wp_tableIn (tgt := 190) dL_law_33 (by decide) rfl (by decide) ?_)
          exact law_2 hn h0 hi hsc hI nxt
        · refine wp_topI (x' := 3) q (wp_tableIn (tgt := 203) dL_law_33 (by decide) rfl (by decide) ?_)
          exact law_3 hn h0 hi hsc hI nxt
        · refine wp_topI (x' := 4) q (wp_tableIn (tgt := 236) dL_law_33 (by decide) rfl (by decide) ?_)
          exact law_4 hn h0 hi hsc hI nxt
        · refine wp_topI (x' := 5) q (wp_tableIn (tgt := 269) dL_law_33 (by decide) rfl (by decide) ?_)
          exact law_5 hn h0 hi hsc hI nxt
        · refine wp_topI (x' := 6) q (wp_tableIn (tgt := 302) dL_law_33 (by decide) rfl (by decide) ?_)
          exact law_6 hn h0 hi hsc hI nxt
        · refine wp_topI (x' := 7) q (wp_tableIn (tgt := 315) dL_law_33 (by decide) rfl (by decide) ?_)
          exact law_7 hn h0 hi hsc hI nxt
        · refine wp_topI (x' := 8) q (wp_tableIn (tgt := 348) dL_law_33 (by decide) rfl (by decide) ?_)
          exact law_8 hn h0 hi hsc hI nxt
        · refine wp_topI (x' := 9) q (wp_tableIn (tgt := 381) dL_law_33 (by decide) rfl (by decide) ?_)
          exact law_9 hn h0 hi hsc hI nxt
        · refine wp_topI (x' := 10) q (wp_tableIn (tgt := 404) dL_law_33 (by decide) rfl (by decide) ?_)
          exact law_10 hn h0 hi hsc hI nxt
        · refine wp_topI (x' := 11) q (wp_tableIn (tgt := 437) dL_law_33 (by decide) rfl (by decide) ?_)
          exact law_11 hn h0 hi hsc hI nxt
        · refine wp_topI (x' := 12) q (wp_tableIn (tgt := 470) dL_law_33 (by decide) rfl (by decide) ?_)
          exact law_12 hn h0 hi hsc hI nxt
        · refine wp_topI (x' := 13) q (wp_tableIn (tgt := 503) dL_law_33 (by decide) rfl (by decide) ?_)
          exact law_13 hn h0 hi hsc hI nxt
      · refine wp_tableOut (tgt := 526) dL_law_33 (by omega) (by decide) ?_
        exact nxt M hI
end Pg05
