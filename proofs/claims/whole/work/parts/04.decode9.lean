theorem dc_L_law_0 : decode code 0 = .ok (.new 8, 3) := by decide +kernel
theorem dc_L_law_3 : decode code 3 = .ok (.dup, 1) := by decide +kernel
theorem dc_L_law_4 : decode code 4 = .ok (.invokespecial 64, 3) := by decide +kernel
theorem dc_L_law_7 : decode code 7 = .ok (.astore_n 1, 1) := by decide +kernel
theorem dc_L_law_8 : decode code 8 = .ok (.new 65, 3) := by decide +kernel
theorem dc_L_law_11 : decode code 11 = .ok (.dup, 1) := by decide +kernel
theorem dc_L_law_12 : decode code 12 = .ok (.invokespecial 67, 3) := by decide +kernel
theorem dc_L_law_15 : decode code 15 = .ok (.astore_n 2, 1) := by decide +kernel
theorem dc_L_law_16 : decode code 16 = .ok (.iconst 1, 1) := by decide +kernel
theorem dc_L_law_17 : decode code 17 = .ok (.newarray .long, 2) := by decide +kernel
theorem dc_L_law_19 : decode code 19 = .ok (.astore_n 3, 1) := by decide +kernel
theorem dc_L_law_20 : decode code 20 = .ok (.iconst 0, 1) := by decide +kernel
theorem dc_L_law_21 : decode code 21 = .ok (.istore 4, 2) := by decide +kernel
theorem dc_L_law_23 : decode code 23 = .ok (.iload 4, 2) := by decide +kernel
theorem dc_L_law_25 : decode code 25 = .ok (.aload_n 0, 1) := by decide +kernel
theorem dc_L_law_26 : decode code 26 = .ok (.arraylength, 1) := by decide +kernel
theorem dc_L_law_27 : decode code 27 = .ok (.bipush 7, 2) := by decide +kernel
theorem dc_L_law_29 : decode code 29 = .ok (.isub, 1) := by decide +kernel
theorem dc_L_law_30 : decode code 30 = .ok (.if_icmp .gt 862, 3) := by decide +kernel
theorem dc_L_law_33 : decode code 33 = .ok (.aload_n 0, 1) := by decide +kernel
theorem dc_L_law_34 : decode code 34 = .ok (.iload 4, 2) := by decide +kernel
theorem dc_L_law_36 : decode code 36 = .ok (.iaload, 1) := by decide +kernel
theorem dc_L_law_37 : decode code 37 = .ok (.bipush 15, 2) := by decide +kernel
theorem dc_L_law_39 : decode code 39 = .ok (.iand, 1) := by decide +kernel
theorem dc_L_law_40 : decode code 40 = .ok (.tableswitch 846 0 14 #[76, 250, 286, 322, 358, 382, 406, 442, 490, 514, 578, 614, 698, 754, 821], 76) := by decide +kernel
theorem dc_L_law_116 : decode code 116 = .ok (.aload_n 1, 1) := by decide +kernel
theorem dc_L_law_117 : decode code 117 = .ok (.aload_n 0, 1) := by decide +kernel
theorem dc_L_law_118 : decode code 118 = .ok (.iload 4, 2) := by decide +kernel
theorem dc_L_law_120 : decode code 120 = .ok (.iconst 1, 1) := by decide +kernel
theorem dc_L_law_121 : decode code 121 = .ok (.iadd, 1) := by decide +kernel
theorem dc_L_law_122 : decode code 122 = .ok (.iaload, 1) := by decide +kernel
theorem dc_L_law_123 : decode code 123 = .ok (.i2l, 1) := by decide +kernel
theorem dc_L_law_124 : decode code 124 = .ok (.bipush 32, 2) := by decide +kernel
theorem dc_L_law_126 : decode code 126 = .ok (.lshl, 1) := by decide +kernel
theorem dc_L_law_127 : decode code 127 = .ok (.aload_n 0, 1) := by decide +kernel
theorem dc_L_law_128 : decode code 128 = .ok (.iload 4, 2) := by decide +kernel
theorem dc_L_law_130 : decode code 130 = .ok (.iconst 2, 1) := by decide +kernel
theorem dc_L_law_131 : decode code 131 = .ok (.iadd, 1) := by decide +kernel
theorem dc_L_law_132 : decode code 132 = .ok (.iaload, 1) := by decide +kernel
theorem dc_L_law_133 : decode code 133 = .ok (.i2l, 1) := by decide +kernel
theorem dc_L_law_134 : decode code 134 = .ok (.ldc2_w 68, 3) := by decide +kernel
theorem dc_L_law_137 : decode code 137 = .ok (.land, 1) := by decide +kernel
theorem dc_L_law_138 : decode code 138 = .ok (.lor, 1) := by decide +kernel
theorem dc_L_law_139 : decode code 139 = .ok (.aload_n 0, 1) := by decide +kernel
theorem dc_L_law_140 : decode code 140 = .ok (.iload 4, 2) := by decide +kernel
theorem dc_L_law_142 : decode code 142 = .ok (.iconst 3, 1) := by decide +kernel
theorem dc_L_law_143 : decode code 143 = .ok (.iadd, 1) := by decide +kernel
theorem dc_L_law_144 : decode code 144 = .ok (.iaload, 1) := by decide +kernel
theorem dc_L_law_145 : decode code 145 = .ok (.i2l, 1) := by decide +kernel
theorem dc_L_law_146 : decode code 146 = .ok (.bipush 32, 2) := by decide +kernel
theorem dc_L_law_148 : decode code 148 = .ok (.lshl, 1) := by decide +kernel
theorem dc_L_law_149 : decode code 149 = .ok (.aload_n 0, 1) := by decide +kernel
theorem dc_L_law_150 : decode code 150 = .ok (.iload 4, 2) := by decide +kernel
theorem dc_L_law_152 : decode code 152 = .ok (.iconst 4, 1) := by decide +kernel
theorem dc_L_law_153 : decode code 153 = .ok (.iadd, 1) := by decide +kernel
theorem dc_L_law_154 : decode code 154 = .ok (.iaload, 1) := by decide +kernel
theorem dc_L_law_155 : decode code 155 = .ok (.i2l, 1) := by decide +kernel
theorem dc_L_law_156 : decode code 156 = .ok (.ldc2_w 68, 3) := by decide +kernel
theorem dc_L_law_159 : decode code 159 = .ok (.land, 1) := by decide +kernel
theorem dc_L_law_160 : decode code 160 = .ok (.lor, 1) := by decide +kernel
theorem dc_L_law_161 : decode code 161 = .ok (.aload_n 0, 1) := by decide +kernel
theorem dc_L_law_162 : decode code 162 = .ok (.iload 4, 2) := by decide +kernel
theorem dc_L_law_164 : decode code 164 = .ok (.iconst 5, 1) := by decide +kernel
theorem dc_L_law_165 : decode code 165 = .ok (.iadd, 1) := by decide +kernel
theorem dc_L_law_166 : decode code 166 = .ok (.iaload, 1) := by decide +kernel
theorem dc_L_law_167 : decode code 167 = .ok (.aload_n 0, 1) := by decide +kernel
theorem dc_L_law_168 : decode code 168 = .ok (.iload 4, 2) := by decide +kernel
theorem dc_L_law_170 : decode code 170 = .ok (.bipush 6, 2) := by decide +kernel
theorem dc_L_law_172 : decode code 172 = .ok (.iadd, 1) := by decide +kernel
theorem dc_L_law_173 : decode code 173 = .ok (.iaload, 1) := by decide +kernel
theorem dc_L_law_174 : decode code 174 = .ok (.ifCond .eq 7, 3) := by decide +kernel
theorem dc_L_law_177 : decode code 177 = .ok (.iconst 1, 1) := by decide +kernel
theorem dc_L_law_178 : decode code 178 = .ok (.goto 4, 3) := by decide +kernel
theorem dc_L_law_181 : decode code 181 = .ok (.iconst 0, 1) := by decide +kernel
theorem dc_L_law_182 : decode code 182 = .ok (.aload_n 3, 1) := by decide +kernel
theorem dc_L_law_183 : decode code 183 = .ok (.invokestatic 70, 3) := by decide +kernel
theorem dc_L_law_186 : decode code 186 = .ok (.istore 5, 2) := by decide +kernel
theorem dc_L_law_188 : decode code 188 = .ok (.aload_n 2, 1) := by decide +kernel
theorem dc_L_law_189 : decode code 189 = .ok (.aload_n 0, 1) := by decide +kernel
theorem dc_L_law_190 : decode code 190 = .ok (.iload 4, 2) := by decide +kernel
theorem dc_L_law_192 : decode code 192 = .ok (.iconst 1, 1) := by decide +kernel
theorem dc_L_law_193 : decode code 193 = .ok (.iadd, 1) := by decide +kernel
theorem dc_L_law_194 : decode code 194 = .ok (.iaload, 1) := by decide +kernel
theorem dc_L_law_195 : decode code 195 = .ok (.i2l, 1) := by decide +kernel
theorem dc_L_law_196 : decode code 196 = .ok (.bipush 32, 2) := by decide +kernel
theorem dc_L_law_198 : decode code 198 = .ok (.lshl, 1) := by decide +kernel
theorem dc_L_law_199 : decode code 199 = .ok (.aload_n 0, 1) := by decide +kernel
theorem dc_L_law_200 : decode code 200 = .ok (.iload 4, 2) := by decide +kernel
theorem dc_L_law_202 : decode code 202 = .ok (.iconst 2, 1) := by decide +kernel
theorem dc_L_law_203 : decode code 203 = .ok (.iadd, 1) := by decide +kernel
theorem dc_L_law_204 : decode code 204 = .ok (.iaload, 1) := by decide +kernel
theorem dc_L_law_205 : decode code 205 = .ok (.i2l, 1) := by decide +kernel
theorem dc_L_law_206 : decode code 206 = .ok (.ldc2_w 68, 3) := by decide +kernel
theorem dc_L_law_209 : decode code 209 = .ok (.land, 1) := by decide +kernel
theorem dc_L_law_210 : decode code 210 = .ok (.lor, 1) := by decide +kernel
theorem dc_L_law_211 : decode code 211 = .ok (.aload_n 0, 1) := by decide +kernel
theorem dc_L_law_212 : decode code 212 = .ok (.iload 4, 2) := by decide +kernel
theorem dc_L_law_214 : decode code 214 = .ok (.iconst 3, 1) := by decide +kernel
theorem dc_L_law_215 : decode code 215 = .ok (.iadd, 1) := by decide +kernel
theorem dc_L_law_216 : decode code 216 = .ok (.iaload, 1) := by decide +kernel
theorem dc_L_law_217 : decode code 217 = .ok (.i2l, 1) := by decide +kernel
theorem dc_L_law_218 : decode code 218 = .ok (.bipush 32, 2) := by decide +kernel
theorem dc_L_law_220 : decode code 220 = .ok (.lshl, 1) := by decide +kernel
theorem dc_L_law_221 : decode code 221 = .ok (.aload_n 0, 1) := by decide +kernel
theorem dc_L_law_222 : decode code 222 = .ok (.iload 4, 2) := by decide +kernel
theorem dc_L_law_224 : decode code 224 = .ok (.iconst 4, 1) := by decide +kernel
theorem dc_L_law_225 : decode code 225 = .ok (.iadd, 1) := by decide +kernel
theorem dc_L_law_226 : decode code 226 = .ok (.iaload, 1) := by decide +kernel
theorem dc_L_law_227 : decode code 227 = .ok (.i2l, 1) := by decide +kernel
theorem dc_L_law_228 : decode code 228 = .ok (.ldc2_w 68, 3) := by decide +kernel
theorem dc_L_law_231 : decode code 231 = .ok (.land, 1) := by decide +kernel
theorem dc_L_law_232 : decode code 232 = .ok (.lor, 1) := by decide +kernel
theorem dc_L_law_233 : decode code 233 = .ok (.aload_n 0, 1) := by decide +kernel
theorem dc_L_law_234 : decode code 234 = .ok (.iload 4, 2) := by decide +kernel
theorem dc_L_law_236 : decode code 236 = .ok (.iconst 5, 1) := by decide +kernel
theorem dc_L_law_237 : decode code 237 = .ok (.iadd, 1) := by decide +kernel
theorem dc_L_law_238 : decode code 238 = .ok (.iaload, 1) := by decide +kernel
theorem dc_L_law_239 : decode code 239 = .ok (.aload_n 0, 1) := by decide +kernel
theorem dc_L_law_240 : decode code 240 = .ok (.iload 4, 2) := by decide +kernel
theorem dc_L_law_242 : decode code 242 = .ok (.bipush 6, 2) := by decide +kernel
theorem dc_L_law_244 : decode code 244 = .ok (.iadd, 1) := by decide +kernel
theorem dc_L_law_245 : decode code 245 = .ok (.iaload, 1) := by decide +kernel
theorem dc_L_law_246 : decode code 246 = .ok (.ifCond .eq 7, 3) := by decide +kernel
theorem dc_L_law_249 : decode code 249 = .ok (.iconst 1, 1) := by decide +kernel
theorem dc_L_law_250 : decode code 250 = .ok (.goto 4, 3) := by decide +kernel
theorem dc_L_law_253 : decode code 253 = .ok (.iconst 0, 1) := by decide +kernel
theorem dc_L_law_254 : decode code 254 = .ok (.invokevirtual 75, 3) := by decide +kernel
theorem dc_L_law_257 : decode code 257 = .ok (.istore 6, 2) := by decide +kernel
theorem dc_L_law_259 : decode code 259 = .ok (.aload_n 2, 1) := by decide +kernel
theorem dc_L_law_260 : decode code 260 = .ok (.invokevirtual 76, 3) := by decide +kernel
theorem dc_L_law_263 : decode code 263 = .ok (.iload 5, 2) := by decide +kernel
theorem dc_L_law_265 : decode code 265 = .ok (.if_icmp .eq 5, 3) := by decide +kernel
theorem dc_L_law_268 : decode code 268 = .ok (.iconst 0, 1) := by decide +kernel
theorem dc_L_law_269 : decode code 269 = .ok (.ireturn, 1) := by decide +kernel
theorem dc_L_law_270 : decode code 270 = .ok (.iload 5, 2) := by decide +kernel
theorem dc_L_law_272 : decode code 272 = .ok (.ifCond .ne 15, 3) := by decide +kernel
theorem dc_L_law_275 : decode code 275 = .ok (.aload_n 3, 1) := by decide +kernel
theorem dc_L_law_276 : decode code 276 = .ok (.iconst 0, 1) := by decide +kernel
theorem dc_L_law_277 : decode code 277 = .ok (.laload, 1) := by decide +kernel
theorem dc_L_law_278 : decode code 278 = .ok (.iload 6, 2) := by decide +kernel
theorem dc_L_law_280 : decode code 280 = .ok (.i2l, 1) := by decide +kernel
theorem dc_L_law_281 : decode code 281 = .ok (.lcmp, 1) := by decide +kernel
theorem dc_L_law_282 : decode code 282 = .ok (.ifCond .eq 5, 3) := by decide +kernel
theorem dc_L_law_285 : decode code 285 = .ok (.iconst 0, 1) := by decide +kernel
theorem dc_L_law_286 : decode code 286 = .ok (.ireturn, 1) := by decide +kernel
theorem dc_L_law_287 : decode code 287 = .ok (.goto 599, 3) := by decide +kernel
theorem dc_L_law_290 : decode code 290 = .ok (.aload_n 1, 1) := by decide +kernel
theorem dc_L_law_291 : decode code 291 = .ok (.aload_n 0, 1) := by decide +kernel
theorem dc_L_law_292 : decode code 292 = .ok (.iload 4, 2) := by decide +kernel
theorem dc_L_law_294 : decode code 294 = .ok (.iconst 1, 1) := by decide +kernel
theorem dc_L_law_295 : decode code 295 = .ok (.iadd, 1) := by decide +kernel
theorem dc_L_law_296 : decode code 296 = .ok (.iaload, 1) := by decide +kernel
theorem dc_L_law_297 : decode code 297 = .ok (.invokestatic 80, 3) := by decide +kernel
theorem dc_L_law_300 : decode code 300 = .ok (.istore 5, 2) := by decide +kernel
theorem dc_L_law_302 : decode code 302 = .ok (.aload_n 2, 1) := by decide +kernel
theorem dc_L_law_303 : decode code 303 = .ok (.aload_n 0, 1) := by decide +kernel
theorem dc_L_law_304 : decode code 304 = .ok (.iload 4, 2) := by decide +kernel
theorem dc_L_law_306 : decode code 306 = .ok (.iconst 1, 1) := by decide +kernel
theorem dc_L_law_307 : decode code 307 = .ok (.iadd, 1) := by decide +kernel
theorem dc_L_law_308 : decode code 308 = .ok (.iaload, 1) := by decide +kernel
theorem dc_L_law_309 : decode code 309 = .ok (.invokevirtual 83, 3) := by decide +kernel
theorem dc_L_law_312 : decode code 312 = .ok (.aload_n 2, 1) := by decide +kernel
theorem dc_L_law_313 : decode code 313 = .ok (.invokevirtual 76, 3) := by decide +kernel
theorem dc_L_law_316 : decode code 316 = .ok (.iload 5, 2) := by decide +kernel
theorem dc_L_law_318 : decode code 318 = .ok (.if_icmp .eq 5, 3) := by decide +kernel
theorem dc_L_law_321 : decode code 321 = .ok (.iconst 0, 1) := by decide +kernel
theorem dc_L_law_322 : decode code 322 = .ok (.ireturn, 1) := by decide +kernel
theorem dc_L_law_323 : decode code 323 = .ok (.goto 563, 3) := by decide +kernel
theorem dc_L_law_326 : decode code 326 = .ok (.aload_n 1, 1) := by decide +kernel
theorem dc_L_law_327 : decode code 327 = .ok (.aload_n 0, 1) := by decide +kernel
theorem dc_L_law_328 : decode code 328 = .ok (.iload 4, 2) := by decide +kernel
theorem dc_L_law_330 : decode code 330 = .ok (.iconst 1, 1) := by decide +kernel
theorem dc_L_law_331 : decode code 331 = .ok (.iadd, 1) := by decide +kernel
theorem dc_L_law_332 : decode code 332 = .ok (.iaload, 1) := by decide +kernel
theorem dc_L_law_333 : decode code 333 = .ok (.invokestatic 84, 3) := by decide +kernel
theorem dc_L_law_336 : decode code 336 = .ok (.istore 5, 2) := by decide +kernel
theorem dc_L_law_338 : decode code 338 = .ok (.aload_n 2, 1) := by decide +kernel
theorem dc_L_law_339 : decode code 339 = .ok (.aload_n 0, 1) := by decide +kernel
theorem dc_L_law_340 : decode code 340 = .ok (.iload 4, 2) := by decide +kernel
theorem dc_L_law_342 : decode code 342 = .ok (.iconst 1, 1) := by decide +kernel
theorem dc_L_law_343 : decode code 343 = .ok (.iadd, 1) := by decide +kernel
theorem dc_L_law_344 : decode code 344 = .ok (.iaload, 1) := by decide +kernel
theorem dc_L_law_345 : decode code 345 = .ok (.invokevirtual 86, 3) := by decide +kernel
theorem dc_L_law_348 : decode code 348 = .ok (.aload_n 2, 1) := by decide +kernel
theorem dc_L_law_349 : decode code 349 = .ok (.invokevirtual 76, 3) := by decide +kernel
theorem dc_L_law_352 : decode code 352 = .ok (.iload 5, 2) := by decide +kernel
theorem dc_L_law_354 : decode code 354 = .ok (.if_icmp .eq 5, 3) := by decide +kernel
theorem dc_L_law_357 : decode code 357 = .ok (.iconst 0, 1) := by decide +kernel
theorem dc_L_law_358 : decode code 358 = .ok (.ireturn, 1) := by decide +kernel
theorem dc_L_law_359 : decode code 359 = .ok (.goto 527, 3) := by decide +kernel
theorem dc_L_law_362 : decode code 362 = .ok (.aload_n 1, 1) := by decide +kernel
theorem dc_L_law_363 : decode code 363 = .ok (.aload_n 0, 1) := by decide +kernel
theorem dc_L_law_364 : decode code 364 = .ok (.iload 4, 2) := by decide +kernel
theorem dc_L_law_366 : decode code 366 = .ok (.iconst 1, 1) := by decide +kernel
theorem dc_L_law_367 : decode code 367 = .ok (.iadd, 1) := by decide +kernel
theorem dc_L_law_368 : decode code 368 = .ok (.iaload, 1) := by decide +kernel
theorem dc_L_law_369 : decode code 369 = .ok (.invokestatic 87, 3) := by decide +kernel
theorem dc_L_law_372 : decode code 372 = .ok (.istore 5, 2) := by decide +kernel
theorem dc_L_law_374 : decode code 374 = .ok (.aload_n 2, 1) := by decide +kernel
theorem dc_L_law_375 : decode code 375 = .ok (.aload_n 0, 1) := by decide +kernel
theorem dc_L_law_376 : decode code 376 = .ok (.iload 4, 2) := by decide +kernel
theorem dc_L_law_378 : decode code 378 = .ok (.iconst 1, 1) := by decide +kernel
theorem dc_L_law_379 : decode code 379 = .ok (.iadd, 1) := by decide +kernel
theorem dc_L_law_380 : decode code 380 = .ok (.iaload, 1) := by decide +kernel
theorem dc_L_law_381 : decode code 381 = .ok (.invokevirtual 89, 3) := by decide +kernel
theorem dc_L_law_384 : decode code 384 = .ok (.aload_n 2, 1) := by decide +kernel
theorem dc_L_law_385 : decode code 385 = .ok (.invokevirtual 76, 3) := by decide +kernel
theorem dc_L_law_388 : decode code 388 = .ok (.iload 5, 2) := by decide +kernel
theorem dc_L_law_390 : decode code 390 = .ok (.if_icmp .eq 5, 3) := by decide +kernel
theorem dc_L_law_393 : decode code 393 = .ok (.iconst 0, 1) := by decide +kernel
theorem dc_L_law_394 : decode code 394 = .ok (.ireturn, 1) := by decide +kernel
theorem dc_L_law_395 : decode code 395 = .ok (.goto 491, 3) := by decide +kernel
theorem dc_L_law_398 : decode code 398 = .ok (.aload_n 1, 1) := by decide +kernel
theorem dc_L_law_399 : decode code 399 = .ok (.invokestatic 90, 3) := by decide +kernel
theorem dc_L_law_402 : decode code 402 = .ok (.istore 5, 2) := by decide +kernel
theorem dc_L_law_404 : decode code 404 = .ok (.aload_n 2, 1) := by decide +kernel
theorem dc_L_law_405 : decode code 405 = .ok (.invokevirtual 93, 3) := by decide +kernel
theorem dc_L_law_408 : decode code 408 = .ok (.aload_n 2, 1) := by decide +kernel
theorem dc_L_law_409 : decode code 409 = .ok (.invokevirtual 76, 3) := by decide +kernel
theorem dc_L_law_412 : decode code 412 = .ok (.iload 5, 2) := by decide +kernel
theorem dc_L_law_414 : decode code 414 = .ok (.if_icmp .eq 5, 3) := by decide +kernel
theorem dc_L_law_417 : decode code 417 = .ok (.iconst 0, 1) := by decide +kernel
theorem dc_L_law_418 : decode code 418 = .ok (.ireturn, 1) := by decide +kernel
theorem dc_L_law_419 : decode code 419 = .ok (.goto 467, 3) := by decide +kernel
theorem dc_L_law_422 : decode code 422 = .ok (.aload_n 1, 1) := by decide +kernel
theorem dc_L_law_423 : decode code 423 = .ok (.invokestatic 94, 3) := by decide +kernel
theorem dc_L_law_426 : decode code 426 = .ok (.istore 5, 2) := by decide +kernel
theorem dc_L_law_428 : decode code 428 = .ok (.aload_n 2, 1) := by decide +kernel
theorem dc_L_law_429 : decode code 429 = .ok (.invokevirtual 96, 3) := by decide +kernel
theorem dc_L_law_432 : decode code 432 = .ok (.aload_n 2, 1) := by decide +kernel
theorem dc_L_law_433 : decode code 433 = .ok (.invokevirtual 76, 3) := by decide +kernel
theorem dc_L_law_436 : decode code 436 = .ok (.iload 5, 2) := by decide +kernel
theorem dc_L_law_438 : decode code 438 = .ok (.if_icmp .eq 5, 3) := by decide +kernel
theorem dc_L_law_441 : decode code 441 = .ok (.iconst 0, 1) := by decide +kernel
theorem dc_L_law_442 : decode code 442 = .ok (.ireturn, 1) := by decide +kernel
theorem dc_L_law_443 : decode code 443 = .ok (.goto 443, 3) := by decide +kernel
theorem dc_L_law_446 : decode code 446 = .ok (.aload_n 1, 1) := by decide +kernel
theorem dc_L_law_447 : decode code 447 = .ok (.aload_n 0, 1) := by decide +kernel
theorem dc_L_law_448 : decode code 448 = .ok (.iload 4, 2) := by decide +kernel
theorem dc_L_law_450 : decode code 450 = .ok (.iconst 1, 1) := by decide +kernel
theorem dc_L_law_451 : decode code 451 = .ok (.iadd, 1) := by decide +kernel
theorem dc_L_law_452 : decode code 452 = .ok (.iaload, 1) := by decide +kernel
theorem dc_L_law_453 : decode code 453 = .ok (.invokestatic 97, 3) := by decide +kernel
theorem dc_L_law_456 : decode code 456 = .ok (.istore 5, 2) := by decide +kernel
theorem dc_L_law_458 : decode code 458 = .ok (.aload_n 2, 1) := by decide +kernel
theorem dc_L_law_459 : decode code 459 = .ok (.aload_n 0, 1) := by decide +kernel
theorem dc_L_law_460 : decode code 460 = .ok (.iload 4, 2) := by decide +kernel
theorem dc_L_law_462 : decode code 462 = .ok (.iconst 1, 1) := by decide +kernel
theorem dc_L_law_463 : decode code 463 = .ok (.iadd, 1) := by decide +kernel
theorem dc_L_law_464 : decode code 464 = .ok (.iaload, 1) := by decide +kernel
theorem dc_L_law_465 : decode code 465 = .ok (.invokevirtual 99, 3) := by decide +kernel
theorem dc_L_law_468 : decode code 468 = .ok (.aload_n 2, 1) := by decide +kernel
theorem dc_L_law_469 : decode code 469 = .ok (.invokevirtual 76, 3) := by decide +kernel
theorem dc_L_law_472 : decode code 472 = .ok (.iload 5, 2) := by decide +kernel
theorem dc_L_law_474 : decode code 474 = .ok (.if_icmp .eq 5, 3) := by decide +kernel
theorem dc_L_law_477 : decode code 477 = .ok (.iconst 0, 1) := by decide +kernel
theorem dc_L_law_478 : decode code 478 = .ok (.ireturn, 1) := by decide +kernel
theorem dc_L_law_479 : decode code 479 = .ok (.goto 407, 3) := by decide +kernel
theorem dc_L_law_482 : decode code 482 = .ok (.aload_n 1, 1) := by decide +kernel
theorem dc_L_law_483 : decode code 483 = .ok (.aload_n 0, 1) := by decide +kernel
theorem dc_L_law_484 : decode code 484 = .ok (.iload 4, 2) := by decide +kernel
theorem dc_L_law_486 : decode code 486 = .ok (.iconst 1, 1) := by decide +kernel
theorem dc_L_law_487 : decode code 487 = .ok (.iadd, 1) := by decide +kernel
theorem dc_L_law_488 : decode code 488 = .ok (.iaload, 1) := by decide +kernel
theorem dc_L_law_489 : decode code 489 = .ok (.aload_n 0, 1) := by decide +kernel
theorem dc_L_law_490 : decode code 490 = .ok (.iload 4, 2) := by decide +kernel
theorem dc_L_law_492 : decode code 492 = .ok (.iconst 2, 1) := by decide +kernel
theorem dc_L_law_493 : decode code 493 = .ok (.iadd, 1) := by decide +kernel
theorem dc_L_law_494 : decode code 494 = .ok (.iaload, 1) := by decide +kernel
theorem dc_L_law_495 : decode code 495 = .ok (.invokestatic 100, 3) := by decide +kernel
theorem dc_L_law_498 : decode code 498 = .ok (.istore 5, 2) := by decide +kernel
theorem dc_L_law_500 : decode code 500 = .ok (.aload_n 2, 1) := by decide +kernel
theorem dc_L_law_501 : decode code 501 = .ok (.aload_n 0, 1) := by decide +kernel
theorem dc_L_law_502 : decode code 502 = .ok (.iload 4, 2) := by decide +kernel
theorem dc_L_law_504 : decode code 504 = .ok (.iconst 1, 1) := by decide +kernel
theorem dc_L_law_505 : decode code 505 = .ok (.iadd, 1) := by decide +kernel
theorem dc_L_law_506 : decode code 506 = .ok (.iaload, 1) := by decide +kernel
theorem dc_L_law_507 : decode code 507 = .ok (.aload_n 0, 1) := by decide +kernel
theorem dc_L_law_508 : decode code 508 = .ok (.iload 4, 2) := by decide +kernel
theorem dc_L_law_510 : decode code 510 = .ok (.iconst 2, 1) := by decide +kernel
theorem dc_L_law_511 : decode code 511 = .ok (.iadd, 1) := by decide +kernel
theorem dc_L_law_512 : decode code 512 = .ok (.iaload, 1) := by decide +kernel
theorem dc_L_law_513 : decode code 513 = .ok (.invokevirtual 103, 3) := by decide +kernel
theorem dc_L_law_516 : decode code 516 = .ok (.aload_n 2, 1) := by decide +kernel
theorem dc_L_law_517 : decode code 517 = .ok (.invokevirtual 76, 3) := by decide +kernel
theorem dc_L_law_520 : decode code 520 = .ok (.iload 5, 2) := by decide +kernel
theorem dc_L_law_522 : decode code 522 = .ok (.if_icmp .eq 5, 3) := by decide +kernel
theorem dc_L_law_525 : decode code 525 = .ok (.iconst 0, 1) := by decide +kernel
theorem dc_L_law_526 : decode code 526 = .ok (.ireturn, 1) := by decide +kernel
theorem dc_L_law_527 : decode code 527 = .ok (.goto 359, 3) := by decide +kernel
theorem dc_L_law_530 : decode code 530 = .ok (.aload_n 1, 1) := by decide +kernel
theorem dc_L_law_531 : decode code 531 = .ok (.invokestatic 104, 3) := by decide +kernel
theorem dc_L_law_534 : decode code 534 = .ok (.istore 5, 2) := by decide +kernel
theorem dc_L_law_536 : decode code 536 = .ok (.aload_n 2, 1) := by decide +kernel
theorem dc_L_law_537 : decode code 537 = .ok (.invokevirtual 106, 3) := by decide +kernel
theorem dc_L_law_540 : decode code 540 = .ok (.aload_n 2, 1) := by decide +kernel
theorem dc_L_law_541 : decode code 541 = .ok (.invokevirtual 76, 3) := by decide +kernel
theorem dc_L_law_544 : decode code 544 = .ok (.iload 5, 2) := by decide +kernel
theorem dc_L_law_546 : decode code 546 = .ok (.if_icmp .eq 5, 3) := by decide +kernel
theorem dc_L_law_549 : decode code 549 = .ok (.iconst 0, 1) := by decide +kernel
theorem dc_L_law_550 : decode code 550 = .ok (.ireturn, 1) := by decide +kernel
theorem dc_L_law_551 : decode code 551 = .ok (.goto 335, 3) := by decide +kernel
theorem dc_L_law_554 : decode code 554 = .ok (.aload_n 1, 1) := by decide +kernel
theorem dc_L_law_555 : decode code 555 = .ok (.aload_n 0, 1) := by decide +kernel
theorem dc_L_law_556 : decode code 556 = .ok (.iload 4, 2) := by decide +kernel
theorem dc_L_law_558 : decode code 558 = .ok (.iconst 1, 1) := by decide +kernel
theorem dc_L_law_559 : decode code 559 = .ok (.iadd, 1) := by decide +kernel
theorem dc_L_law_560 : decode code 560 = .ok (.iaload, 1) := by decide +kernel
theorem dc_L_law_561 : decode code 561 = .ok (.aload_n 0, 1) := by decide +kernel
theorem dc_L_law_562 : decode code 562 = .ok (.iload 4, 2) := by decide +kernel
theorem dc_L_law_564 : decode code 564 = .ok (.iconst 2, 1) := by decide +kernel
theorem dc_L_law_565 : decode code 565 = .ok (.iadd, 1) := by decide +kernel
theorem dc_L_law_566 : decode code 566 = .ok (.iaload, 1) := by decide +kernel
theorem dc_L_law_567 : decode code 567 = .ok (.ifCond .eq 7, 3) := by decide +kernel
theorem dc_L_law_570 : decode code 570 = .ok (.iconst 1, 1) := by decide +kernel
theorem dc_L_law_571 : decode code 571 = .ok (.goto 4, 3) := by decide +kernel
theorem dc_L_law_574 : decode code 574 = .ok (.iconst 0, 1) := by decide +kernel
theorem dc_L_law_575 : decode code 575 = .ok (.invokestatic 107, 3) := by decide +kernel
theorem dc_L_law_578 : decode code 578 = .ok (.istore 5, 2) := by decide +kernel
theorem dc_L_law_580 : decode code 580 = .ok (.aload_n 2, 1) := by decide +kernel
theorem dc_L_law_581 : decode code 581 = .ok (.aload_n 0, 1) := by decide +kernel
theorem dc_L_law_582 : decode code 582 = .ok (.iload 4, 2) := by decide +kernel
theorem dc_L_law_584 : decode code 584 = .ok (.iconst 1, 1) := by decide +kernel
theorem dc_L_law_585 : decode code 585 = .ok (.iadd, 1) := by decide +kernel
theorem dc_L_law_586 : decode code 586 = .ok (.iaload, 1) := by decide +kernel
theorem dc_L_law_587 : decode code 587 = .ok (.aload_n 0, 1) := by decide +kernel
theorem dc_L_law_588 : decode code 588 = .ok (.iload 4, 2) := by decide +kernel
theorem dc_L_law_590 : decode code 590 = .ok (.iconst 2, 1) := by decide +kernel
theorem dc_L_law_591 : decode code 591 = .ok (.iadd, 1) := by decide +kernel
theorem dc_L_law_592 : decode code 592 = .ok (.iaload, 1) := by decide +kernel
theorem dc_L_law_593 : decode code 593 = .ok (.ifCond .eq 7, 3) := by decide +kernel
theorem dc_L_law_596 : decode code 596 = .ok (.iconst 1, 1) := by decide +kernel
theorem dc_L_law_597 : decode code 597 = .ok (.goto 4, 3) := by decide +kernel
theorem dc_L_law_600 : decode code 600 = .ok (.iconst 0, 1) := by decide +kernel
theorem dc_L_law_601 : decode code 601 = .ok (.invokevirtual 110, 3) := by decide +kernel
theorem dc_L_law_604 : decode code 604 = .ok (.aload_n 2, 1) := by decide +kernel
theorem dc_L_law_605 : decode code 605 = .ok (.invokevirtual 76, 3) := by decide +kernel
theorem dc_L_law_608 : decode code 608 = .ok (.iload 5, 2) := by decide +kernel
theorem dc_L_law_610 : decode code 610 = .ok (.if_icmp .eq 5, 3) := by decide +kernel
theorem dc_L_law_613 : decode code 613 = .ok (.iconst 0, 1) := by decide +kernel
theorem dc_L_law_614 : decode code 614 = .ok (.ireturn, 1) := by decide +kernel
theorem dc_L_law_615 : decode code 615 = .ok (.goto 271, 3) := by decide +kernel
theorem dc_L_law_618 : decode code 618 = .ok (.aload_n 1, 1) := by decide +kernel
theorem dc_L_law_619 : decode code 619 = .ok (.aload_n 0, 1) := by decide +kernel
theorem dc_L_law_620 : decode code 620 = .ok (.iload 4, 2) := by decide +kernel
theorem dc_L_law_622 : decode code 622 = .ok (.iconst 1, 1) := by decide +kernel
theorem dc_L_law_623 : decode code 623 = .ok (.iadd, 1) := by decide +kernel
theorem dc_L_law_624 : decode code 624 = .ok (.iaload, 1) := by decide +kernel
theorem dc_L_law_625 : decode code 625 = .ok (.invokestatic 111, 3) := by decide +kernel
theorem dc_L_law_628 : decode code 628 = .ok (.istore 5, 2) := by decide +kernel
theorem dc_L_law_630 : decode code 630 = .ok (.aload_n 2, 1) := by decide +kernel
theorem dc_L_law_631 : decode code 631 = .ok (.aload_n 0, 1) := by decide +kernel
theorem dc_L_law_632 : decode code 632 = .ok (.iload 4, 2) := by decide +kernel
theorem dc_L_law_634 : decode code 634 = .ok (.iconst 1, 1) := by decide +kernel
theorem dc_L_law_635 : decode code 635 = .ok (.iadd, 1) := by decide +kernel
theorem dc_L_law_636 : decode code 636 = .ok (.iaload, 1) := by decide +kernel
theorem dc_L_law_637 : decode code 637 = .ok (.invokevirtual 113, 3) := by decide +kernel
theorem dc_L_law_640 : decode code 640 = .ok (.aload_n 2, 1) := by decide +kernel
theorem dc_L_law_641 : decode code 641 = .ok (.invokevirtual 76, 3) := by decide +kernel
theorem dc_L_law_644 : decode code 644 = .ok (.iload 5, 2) := by decide +kernel
theorem dc_L_law_646 : decode code 646 = .ok (.if_icmp .eq 5, 3) := by decide +kernel
theorem dc_L_law_649 : decode code 649 = .ok (.iconst 0, 1) := by decide +kernel
theorem dc_L_law_650 : decode code 650 = .ok (.ireturn, 1) := by decide +kernel
theorem dc_L_law_651 : decode code 651 = .ok (.goto 235, 3) := by decide +kernel
theorem dc_L_law_654 : decode code 654 = .ok (.aload_n 1, 1) := by decide +kernel
theorem dc_L_law_655 : decode code 655 = .ok (.aload_n 0, 1) := by decide +kernel
theorem dc_L_law_656 : decode code 656 = .ok (.iload 4, 2) := by decide +kernel
theorem dc_L_law_658 : decode code 658 = .ok (.iconst 1, 1) := by decide +kernel
theorem dc_L_law_659 : decode code 659 = .ok (.iadd, 1) := by decide +kernel
theorem dc_L_law_660 : decode code 660 = .ok (.iaload, 1) := by decide +kernel
theorem dc_L_law_661 : decode code 661 = .ok (.aload_n 0, 1) := by decide +kernel
theorem dc_L_law_662 : decode code 662 = .ok (.iload 4, 2) := by decide +kernel
theorem dc_L_law_664 : decode code 664 = .ok (.iconst 2, 1) := by decide +kernel
theorem dc_L_law_665 : decode code 665 = .ok (.iadd, 1) := by decide +kernel
theorem dc_L_law_666 : decode code 666 = .ok (.iaload, 1) := by decide +kernel
theorem dc_L_law_667 : decode code 667 = .ok (.ifCond .eq 7, 3) := by decide +kernel
theorem dc_L_law_670 : decode code 670 = .ok (.iconst 1, 1) := by decide +kernel
theorem dc_L_law_671 : decode code 671 = .ok (.goto 4, 3) := by decide +kernel
theorem dc_L_law_674 : decode code 674 = .ok (.iconst 0, 1) := by decide +kernel
theorem dc_L_law_675 : decode code 675 = .ok (.aload_n 3, 1) := by decide +kernel
theorem dc_L_law_676 : decode code 676 = .ok (.invokestatic 114, 3) := by decide +kernel
theorem dc_L_law_679 : decode code 679 = .ok (.istore 5, 2) := by decide +kernel
theorem dc_L_law_681 : decode code 681 = .ok (.aload_n 2, 1) := by decide +kernel
theorem dc_L_law_682 : decode code 682 = .ok (.aload_n 0, 1) := by decide +kernel
theorem dc_L_law_683 : decode code 683 = .ok (.iload 4, 2) := by decide +kernel
theorem dc_L_law_685 : decode code 685 = .ok (.iconst 1, 1) := by decide +kernel
theorem dc_L_law_686 : decode code 686 = .ok (.iadd, 1) := by decide +kernel
theorem dc_L_law_687 : decode code 687 = .ok (.iaload, 1) := by decide +kernel
theorem dc_L_law_688 : decode code 688 = .ok (.aload_n 0, 1) := by decide +kernel
theorem dc_L_law_689 : decode code 689 = .ok (.iload 4, 2) := by decide +kernel
theorem dc_L_law_691 : decode code 691 = .ok (.iconst 2, 1) := by decide +kernel
theorem dc_L_law_692 : decode code 692 = .ok (.iadd, 1) := by decide +kernel
theorem dc_L_law_693 : decode code 693 = .ok (.iaload, 1) := by decide +kernel
theorem dc_L_law_694 : decode code 694 = .ok (.ifCond .eq 7, 3) := by decide +kernel
theorem dc_L_law_697 : decode code 697 = .ok (.iconst 1, 1) := by decide +kernel
theorem dc_L_law_698 : decode code 698 = .ok (.goto 4, 3) := by decide +kernel
theorem dc_L_law_701 : decode code 701 = .ok (.iconst 0, 1) := by decide +kernel
theorem dc_L_law_702 : decode code 702 = .ok (.invokevirtual 117, 3) := by decide +kernel
theorem dc_L_law_705 : decode code 705 = .ok (.istore 6, 2) := by decide +kernel
theorem dc_L_law_707 : decode code 707 = .ok (.aload_n 2, 1) := by decide +kernel
theorem dc_L_law_708 : decode code 708 = .ok (.invokevirtual 76, 3) := by decide +kernel
theorem dc_L_law_711 : decode code 711 = .ok (.iload 5, 2) := by decide +kernel
theorem dc_L_law_713 : decode code 713 = .ok (.if_icmp .eq 5, 3) := by decide +kernel
theorem dc_L_law_716 : decode code 716 = .ok (.iconst 0, 1) := by decide +kernel
theorem dc_L_law_717 : decode code 717 = .ok (.ireturn, 1) := by decide +kernel
theorem dc_L_law_718 : decode code 718 = .ok (.iload 5, 2) := by decide +kernel
theorem dc_L_law_720 : decode code 720 = .ok (.ifCond .ne 15, 3) := by decide +kernel
theorem dc_L_law_723 : decode code 723 = .ok (.aload_n 3, 1) := by decide +kernel
theorem dc_L_law_724 : decode code 724 = .ok (.iconst 0, 1) := by decide +kernel
theorem dc_L_law_725 : decode code 725 = .ok (.laload, 1) := by decide +kernel
theorem dc_L_law_726 : decode code 726 = .ok (.iload 6, 2) := by decide +kernel
theorem dc_L_law_728 : decode code 728 = .ok (.i2l, 1) := by decide +kernel
theorem dc_L_law_729 : decode code 729 = .ok (.lcmp, 1) := by decide +kernel
theorem dc_L_law_730 : decode code 730 = .ok (.ifCond .eq 5, 3) := by decide +kernel
theorem dc_L_law_733 : decode code 733 = .ok (.iconst 0, 1) := by decide +kernel
theorem dc_L_law_734 : decode code 734 = .ok (.ireturn, 1) := by decide +kernel
theorem dc_L_law_735 : decode code 735 = .ok (.goto 151, 3) := by decide +kernel
theorem dc_L_law_738 : decode code 738 = .ok (.aload_n 1, 1) := by decide +kernel
theorem dc_L_law_739 : decode code 739 = .ok (.aload_n 0, 1) := by decide +kernel
theorem dc_L_law_740 : decode code 740 = .ok (.iload 4, 2) := by decide +kernel
theorem dc_L_law_742 : decode code 742 = .ok (.iconst 1, 1) := by decide +kernel
theorem dc_L_law_743 : decode code 743 = .ok (.iadd, 1) := by decide +kernel
theorem dc_L_law_744 : decode code 744 = .ok (.iaload, 1) := by decide +kernel
theorem dc_L_law_745 : decode code 745 = .ok (.aload_n 3, 1) := by decide +kernel
theorem dc_L_law_746 : decode code 746 = .ok (.invokestatic 118, 3) := by decide +kernel
theorem dc_L_law_749 : decode code 749 = .ok (.istore 5, 2) := by decide +kernel
theorem dc_L_law_751 : decode code 751 = .ok (.aload_n 2, 1) := by decide +kernel
theorem dc_L_law_752 : decode code 752 = .ok (.aload_n 0, 1) := by decide +kernel
theorem dc_L_law_753 : decode code 753 = .ok (.iload 4, 2) := by decide +kernel
theorem dc_L_law_755 : decode code 755 = .ok (.iconst 1, 1) := by decide +kernel
theorem dc_L_law_756 : decode code 756 = .ok (.iadd, 1) := by decide +kernel
theorem dc_L_law_757 : decode code 757 = .ok (.iaload, 1) := by decide +kernel
theorem dc_L_law_758 : decode code 758 = .ok (.invokevirtual 121, 3) := by decide +kernel
theorem dc_L_law_761 : decode code 761 = .ok (.istore 6, 2) := by decide +kernel
theorem dc_L_law_763 : decode code 763 = .ok (.aload_n 2, 1) := by decide +kernel
theorem dc_L_law_764 : decode code 764 = .ok (.invokevirtual 76, 3) := by decide +kernel
theorem dc_L_law_767 : decode code 767 = .ok (.iload 5, 2) := by decide +kernel
theorem dc_L_law_769 : decode code 769 = .ok (.if_icmp .eq 5, 3) := by decide +kernel
theorem dc_L_law_772 : decode code 772 = .ok (.iconst 0, 1) := by decide +kernel
theorem dc_L_law_773 : decode code 773 = .ok (.ireturn, 1) := by decide +kernel
theorem dc_L_law_774 : decode code 774 = .ok (.iload 5, 2) := by decide +kernel
theorem dc_L_law_776 : decode code 776 = .ok (.ifCond .ne 15, 3) := by decide +kernel
theorem dc_L_law_779 : decode code 779 = .ok (.aload_n 3, 1) := by decide +kernel
theorem dc_L_law_780 : decode code 780 = .ok (.iconst 0, 1) := by decide +kernel
theorem dc_L_law_781 : decode code 781 = .ok (.laload, 1) := by decide +kernel
theorem dc_L_law_782 : decode code 782 = .ok (.iload 6, 2) := by decide +kernel
theorem dc_L_law_784 : decode code 784 = .ok (.i2l, 1) := by decide +kernel
theorem dc_L_law_785 : decode code 785 = .ok (.lcmp, 1) := by decide +kernel
theorem dc_L_law_786 : decode code 786 = .ok (.ifCond .eq 5, 3) := by decide +kernel
theorem dc_L_law_789 : decode code 789 = .ok (.iconst 0, 1) := by decide +kernel
theorem dc_L_law_790 : decode code 790 = .ok (.ireturn, 1) := by decide +kernel
theorem dc_L_law_791 : decode code 791 = .ok (.goto 95, 3) := by decide +kernel
theorem dc_L_law_794 : decode code 794 = .ok (.aload_n 1, 1) := by decide +kernel
theorem dc_L_law_795 : decode code 795 = .ok (.aload_n 0, 1) := by decide +kernel
theorem dc_L_law_796 : decode code 796 = .ok (.iload 4, 2) := by decide +kernel
theorem dc_L_law_798 : decode code 798 = .ok (.iconst 1, 1) := by decide +kernel
theorem dc_L_law_799 : decode code 799 = .ok (.iadd, 1) := by decide +kernel
theorem dc_L_law_800 : decode code 800 = .ok (.iaload, 1) := by decide +kernel
theorem dc_L_law_801 : decode code 801 = .ok (.aload_n 0, 1) := by decide +kernel
theorem dc_L_law_802 : decode code 802 = .ok (.iload 4, 2) := by decide +kernel
theorem dc_L_law_804 : decode code 804 = .ok (.iconst 2, 1) := by decide +kernel
theorem dc_L_law_805 : decode code 805 = .ok (.iadd, 1) := by decide +kernel
theorem dc_L_law_806 : decode code 806 = .ok (.iaload, 1) := by decide +kernel
theorem dc_L_law_807 : decode code 807 = .ok (.aload_n 3, 1) := by decide +kernel
theorem dc_L_law_808 : decode code 808 = .ok (.invokestatic 122, 3) := by decide +kernel
theorem dc_L_law_811 : decode code 811 = .ok (.istore 5, 2) := by decide +kernel
theorem dc_L_law_813 : decode code 813 = .ok (.aload_n 2, 1) := by decide +kernel
theorem dc_L_law_814 : decode code 814 = .ok (.aload_n 0, 1) := by decide +kernel
theorem dc_L_law_815 : decode code 815 = .ok (.iload 4, 2) := by decide +kernel
theorem dc_L_law_817 : decode code 817 = .ok (.iconst 1, 1) := by decide +kernel
theorem dc_L_law_818 : decode code 818 = .ok (.iadd, 1) := by decide +kernel
theorem dc_L_law_819 : decode code 819 = .ok (.iaload, 1) := by decide +kernel
theorem dc_L_law_820 : decode code 820 = .ok (.aload_n 0, 1) := by decide +kernel
theorem dc_L_law_821 : decode code 821 = .ok (.iload 4, 2) := by decide +kernel
theorem dc_L_law_823 : decode code 823 = .ok (.iconst 2, 1) := by decide +kernel
theorem dc_L_law_824 : decode code 824 = .ok (.iadd, 1) := by decide +kernel
theorem dc_L_law_825 : decode code 825 = .ok (.iaload, 1) := by decide +kernel
theorem dc_L_law_826 : decode code 826 = .ok (.invokevirtual 125, 3) := by decide +kernel
theorem dc_L_law_829 : decode code 829 = .ok (.lstore 6, 2) := by decide +kernel
theorem dc_L_law_831 : decode code 831 = .ok (.aload_n 2, 1) := by decide +kernel
theorem dc_L_law_832 : decode code 832 = .ok (.invokevirtual 76, 3) := by decide +kernel
theorem dc_L_law_835 : decode code 835 = .ok (.iload 5, 2) := by decide +kernel
theorem dc_L_law_837 : decode code 837 = .ok (.if_icmp .eq 5, 3) := by decide +kernel
theorem dc_L_law_840 : decode code 840 = .ok (.iconst 0, 1) := by decide +kernel
theorem dc_L_law_841 : decode code 841 = .ok (.ireturn, 1) := by decide +kernel
theorem dc_L_law_842 : decode code 842 = .ok (.iload 5, 2) := by decide +kernel
theorem dc_L_law_844 : decode code 844 = .ok (.ifCond .ne 14, 3) := by decide +kernel
theorem dc_L_law_847 : decode code 847 = .ok (.aload_n 3, 1) := by decide +kernel
theorem dc_L_law_848 : decode code 848 = .ok (.iconst 0, 1) := by decide +kernel
theorem dc_L_law_849 : decode code 849 = .ok (.laload, 1) := by decide +kernel
theorem dc_L_law_850 : decode code 850 = .ok (.lload 6, 2) := by decide +kernel
theorem dc_L_law_852 : decode code 852 = .ok (.lcmp, 1) := by decide +kernel
theorem dc_L_law_853 : decode code 853 = .ok (.ifCond .eq 5, 3) := by decide +kernel
theorem dc_L_law_856 : decode code 856 = .ok (.iconst 0, 1) := by decide +kernel
theorem dc_L_law_857 : decode code 857 = .ok (.ireturn, 1) := by decide +kernel
theorem dc_L_law_858 : decode code 858 = .ok (.goto 28, 3) := by decide +kernel
theorem dc_L_law_861 : decode code 861 = .ok (.aload_n 1, 1) := by decide +kernel
theorem dc_L_law_862 : decode code 862 = .ok (.aload_n 0, 1) := by decide +kernel
theorem dc_L_law_863 : decode code 863 = .ok (.iload 4, 2) := by decide +kernel
theorem dc_L_law_865 : decode code 865 = .ok (.iconst 1, 1) := by decide +kernel
theorem dc_L_law_866 : decode code 866 = .ok (.iadd, 1) := by decide +kernel
theorem dc_L_law_867 : decode code 867 = .ok (.iaload, 1) := by decide +kernel
theorem dc_L_law_868 : decode code 868 = .ok (.invokevirtual 126, 3) := by decide +kernel
theorem dc_L_law_871 : decode code 871 = .ok (.aload_n 2, 1) := by decide +kernel
theorem dc_L_law_872 : decode code 872 = .ok (.aload_n 0, 1) := by decide +kernel
theorem dc_L_law_873 : decode code 873 = .ok (.iload 4, 2) := by decide +kernel
theorem dc_L_law_875 : decode code 875 = .ok (.iconst 1, 1) := by decide +kernel
theorem dc_L_law_876 : decode code 876 = .ok (.iadd, 1) := by decide +kernel
theorem dc_L_law_877 : decode code 877 = .ok (.iaload, 1) := by decide +kernel
theorem dc_L_law_878 : decode code 878 = .ok (.invokevirtual 129, 3) := by decide +kernel
theorem dc_L_law_881 : decode code 881 = .ok (.if_icmp .eq 5, 3) := by decide +kernel
theorem dc_L_law_884 : decode code 884 = .ok (.iconst 0, 1) := by decide +kernel
theorem dc_L_law_885 : decode code 885 = .ok (.ireturn, 1) := by decide +kernel
theorem dc_L_law_886 : decode code 886 = .ok (.iinc 4 7, 3) := by decide +kernel
theorem dc_L_law_889 : decode code 889 = .ok (.goto (-866), 3) := by decide +kernel
theorem dc_L_law_892 : decode code 892 = .ok (.iconst 1, 1) := by decide +kernel
theorem dc_L_law_893 : decode code 893 = .ok (.ireturn, 1) := by decide +kernel
