theorem d_law_0 : decode code 0 = .ok (.new 8, 3) := by decide +kernel
theorem d_law_3 : decode code 3 = .ok (.dup, 1) := by decide +kernel
theorem d_law_4 : decode code 4 = .ok (.invokespecial 48, 3) := by decide +kernel
theorem d_law_7 : decode code 7 = .ok (.astore_n 1, 1) := by decide +kernel
theorem d_law_8 : decode code 8 = .ok (.new 49, 3) := by decide +kernel
theorem d_law_11 : decode code 11 = .ok (.dup, 1) := by decide +kernel
theorem d_law_12 : decode code 12 = .ok (.invokespecial 51, 3) := by decide +kernel
theorem d_law_15 : decode code 15 = .ok (.astore_n 2, 1) := by decide +kernel
theorem d_law_16 : decode code 16 = .ok (.iconst 1, 1) := by decide +kernel
theorem d_law_17 : decode code 17 = .ok (.newarray .long, 2) := by decide +kernel
theorem d_law_19 : decode code 19 = .ok (.astore_n 3, 1) := by decide +kernel
theorem d_law_20 : decode code 20 = .ok (.iconst 0, 1) := by decide +kernel
theorem d_law_21 : decode code 21 = .ok (.istore 4, 2) := by decide +kernel
theorem d_law_23 : decode code 23 = .ok (.iload 4, 2) := by decide +kernel
theorem d_law_25 : decode code 25 = .ok (.aload_n 0, 1) := by decide +kernel
theorem d_law_26 : decode code 26 = .ok (.arraylength, 1) := by decide +kernel
theorem d_law_27 : decode code 27 = .ok (.bipush 6, 2) := by decide +kernel
theorem d_law_29 : decode code 29 = .ok (.isub, 1) := by decide +kernel
theorem d_law_30 : decode code 30 = .ok (.if_icmp .gt 619, 3) := by decide +kernel
theorem d_law_33 : decode code 33 = .ok (.aload_n 0, 1) := by decide +kernel
theorem d_law_34 : decode code 34 = .ok (.iload 4, 2) := by decide +kernel
theorem d_law_36 : decode code 36 = .ok (.iaload, 1) := by decide +kernel
theorem d_law_37 : decode code 37 = .ok (.bipush 15, 2) := by decide +kernel
theorem d_law_39 : decode code 39 = .ok (.iand, 1) := by decide +kernel
theorem d_law_40 : decode code 40 = .ok (.tableswitch 603 0 11 #[64, 168, 224, 260, 284, 339, 352, 396, 440, 508, 564, 589], 64) := by decide +kernel
theorem d_law_104 : decode code 104 = .ok (.aload_n 1, 1) := by decide +kernel
theorem d_law_105 : decode code 105 = .ok (.aload_n 0, 1) := by decide +kernel
theorem d_law_106 : decode code 106 = .ok (.iload 4, 2) := by decide +kernel
theorem d_law_108 : decode code 108 = .ok (.iconst 1, 1) := by decide +kernel
theorem d_law_109 : decode code 109 = .ok (.iadd, 1) := by decide +kernel
theorem d_law_110 : decode code 110 = .ok (.iaload, 1) := by decide +kernel
theorem d_law_111 : decode code 111 = .ok (.aload_n 0, 1) := by decide +kernel
theorem d_law_112 : decode code 112 = .ok (.iload 4, 2) := by decide +kernel
theorem d_law_114 : decode code 114 = .ok (.iconst 2, 1) := by decide +kernel
theorem d_law_115 : decode code 115 = .ok (.iadd, 1) := by decide +kernel
theorem d_law_116 : decode code 116 = .ok (.iaload, 1) := by decide +kernel
theorem d_law_117 : decode code 117 = .ok (.aload_n 0, 1) := by decide +kernel
theorem d_law_118 : decode code 118 = .ok (.iload 4, 2) := by decide +kernel
theorem d_law_120 : decode code 120 = .ok (.iconst 3, 1) := by decide +kernel
theorem d_law_121 : decode code 121 = .ok (.iadd, 1) := by decide +kernel
theorem d_law_122 : decode code 122 = .ok (.iaload, 1) := by decide +kernel
theorem d_law_123 : decode code 123 = .ok (.aload_n 0, 1) := by decide +kernel
theorem d_law_124 : decode code 124 = .ok (.iload 4, 2) := by decide +kernel
theorem d_law_126 : decode code 126 = .ok (.iconst 4, 1) := by decide +kernel
theorem d_law_127 : decode code 127 = .ok (.iadd, 1) := by decide +kernel
theorem d_law_128 : decode code 128 = .ok (.iaload, 1) := by decide +kernel
theorem d_law_129 : decode code 129 = .ok (.aload_n 0, 1) := by decide +kernel
theorem d_law_130 : decode code 130 = .ok (.iload 4, 2) := by decide +kernel
theorem d_law_132 : decode code 132 = .ok (.iconst 5, 1) := by decide +kernel
theorem d_law_133 : decode code 133 = .ok (.iadd, 1) := by decide +kernel
theorem d_law_134 : decode code 134 = .ok (.iaload, 1) := by decide +kernel
theorem d_law_135 : decode code 135 = .ok (.aload_n 3, 1) := by decide +kernel
theorem d_law_136 : decode code 136 = .ok (.invokestatic 52, 3) := by decide +kernel
theorem d_law_139 : decode code 139 = .ok (.istore 5, 2) := by decide +kernel
theorem d_law_141 : decode code 141 = .ok (.aload_n 2, 1) := by decide +kernel
theorem d_law_142 : decode code 142 = .ok (.aload_n 0, 1) := by decide +kernel
theorem d_law_143 : decode code 143 = .ok (.iload 4, 2) := by decide +kernel
theorem d_law_145 : decode code 145 = .ok (.iconst 1, 1) := by decide +kernel
theorem d_law_146 : decode code 146 = .ok (.iadd, 1) := by decide +kernel
theorem d_law_147 : decode code 147 = .ok (.iaload, 1) := by decide +kernel
theorem d_law_148 : decode code 148 = .ok (.aload_n 0, 1) := by decide +kernel
theorem d_law_149 : decode code 149 = .ok (.iload 4, 2) := by decide +kernel
theorem d_law_151 : decode code 151 = .ok (.iconst 2, 1) := by decide +kernel
theorem d_law_152 : decode code 152 = .ok (.iadd, 1) := by decide +kernel
theorem d_law_153 : decode code 153 = .ok (.iaload, 1) := by decide +kernel
theorem d_law_154 : decode code 154 = .ok (.aload_n 0, 1) := by decide +kernel
theorem d_law_155 : decode code 155 = .ok (.iload 4, 2) := by decide +kernel
theorem d_law_157 : decode code 157 = .ok (.iconst 3, 1) := by decide +kernel
theorem d_law_158 : decode code 158 = .ok (.iadd, 1) := by decide +kernel
theorem d_law_159 : decode code 159 = .ok (.iaload, 1) := by decide +kernel
theorem d_law_160 : decode code 160 = .ok (.aload_n 0, 1) := by decide +kernel
theorem d_law_161 : decode code 161 = .ok (.iload 4, 2) := by decide +kernel
theorem d_law_163 : decode code 163 = .ok (.iconst 4, 1) := by decide +kernel
theorem d_law_164 : decode code 164 = .ok (.iadd, 1) := by decide +kernel
theorem d_law_165 : decode code 165 = .ok (.iaload, 1) := by decide +kernel
theorem d_law_166 : decode code 166 = .ok (.aload_n 0, 1) := by decide +kernel
theorem d_law_167 : decode code 167 = .ok (.iload 4, 2) := by decide +kernel
theorem d_law_169 : decode code 169 = .ok (.iconst 5, 1) := by decide +kernel
theorem d_law_170 : decode code 170 = .ok (.iadd, 1) := by decide +kernel
theorem d_law_171 : decode code 171 = .ok (.iaload, 1) := by decide +kernel
theorem d_law_172 : decode code 172 = .ok (.invokevirtual 57, 3) := by decide +kernel
theorem d_law_175 : decode code 175 = .ok (.istore 6, 2) := by decide +kernel
theorem d_law_177 : decode code 177 = .ok (.aload_n 2, 1) := by decide +kernel
theorem d_law_178 : decode code 178 = .ok (.invokevirtual 58, 3) := by decide +kernel
theorem d_law_181 : decode code 181 = .ok (.iload 5, 2) := by decide +kernel
theorem d_law_183 : decode code 183 = .ok (.if_icmp .eq 5, 3) := by decide +kernel
theorem d_law_186 : decode code 186 = .ok (.iconst 0, 1) := by decide +kernel
theorem d_law_187 : decode code 187 = .ok (.ireturn, 1) := by decide +kernel
theorem d_law_188 : decode code 188 = .ok (.iload 5, 2) := by decide +kernel
theorem d_law_190 : decode code 190 = .ok (.ifCond .ne 15, 3) := by decide +kernel
theorem d_law_193 : decode code 193 = .ok (.aload_n 3, 1) := by decide +kernel
theorem d_law_194 : decode code 194 = .ok (.iconst 0, 1) := by decide +kernel
theorem d_law_195 : decode code 195 = .ok (.laload, 1) := by decide +kernel
theorem d_law_196 : decode code 196 = .ok (.iload 6, 2) := by decide +kernel
theorem d_law_198 : decode code 198 = .ok (.i2l, 1) := by decide +kernel
theorem d_law_199 : decode code 199 = .ok (.lcmp, 1) := by decide +kernel
theorem d_law_200 : decode code 200 = .ok (.ifCond .eq 5, 3) := by decide +kernel
theorem d_law_203 : decode code 203 = .ok (.iconst 0, 1) := by decide +kernel
theorem d_law_204 : decode code 204 = .ok (.ireturn, 1) := by decide +kernel
theorem d_law_205 : decode code 205 = .ok (.goto 438, 3) := by decide +kernel
theorem d_law_208 : decode code 208 = .ok (.aload_n 1, 1) := by decide +kernel
theorem d_law_209 : decode code 209 = .ok (.aload_n 0, 1) := by decide +kernel
theorem d_law_210 : decode code 210 = .ok (.iload 4, 2) := by decide +kernel
theorem d_law_212 : decode code 212 = .ok (.iconst 1, 1) := by decide +kernel
theorem d_law_213 : decode code 213 = .ok (.iadd, 1) := by decide +kernel
theorem d_law_214 : decode code 214 = .ok (.iaload, 1) := by decide +kernel
theorem d_law_215 : decode code 215 = .ok (.aload_n 3, 1) := by decide +kernel
theorem d_law_216 : decode code 216 = .ok (.invokestatic 61, 3) := by decide +kernel
theorem d_law_219 : decode code 219 = .ok (.istore 5, 2) := by decide +kernel
theorem d_law_221 : decode code 221 = .ok (.aload_n 2, 1) := by decide +kernel
theorem d_law_222 : decode code 222 = .ok (.aload_n 0, 1) := by decide +kernel
theorem d_law_223 : decode code 223 = .ok (.iload 4, 2) := by decide +kernel
theorem d_law_225 : decode code 225 = .ok (.iconst 1, 1) := by decide +kernel
theorem d_law_226 : decode code 226 = .ok (.iadd, 1) := by decide +kernel
theorem d_law_227 : decode code 227 = .ok (.iaload, 1) := by decide +kernel
theorem d_law_228 : decode code 228 = .ok (.invokevirtual 64, 3) := by decide +kernel
theorem d_law_231 : decode code 231 = .ok (.istore 6, 2) := by decide +kernel
theorem d_law_233 : decode code 233 = .ok (.aload_n 2, 1) := by decide +kernel
theorem d_law_234 : decode code 234 = .ok (.invokevirtual 58, 3) := by decide +kernel
theorem d_law_237 : decode code 237 = .ok (.iload 5, 2) := by decide +kernel
theorem d_law_239 : decode code 239 = .ok (.if_icmp .eq 5, 3) := by decide +kernel
theorem d_law_242 : decode code 242 = .ok (.iconst 0, 1) := by decide +kernel
theorem d_law_243 : decode code 243 = .ok (.ireturn, 1) := by decide +kernel
theorem d_law_244 : decode code 244 = .ok (.iload 5, 2) := by decide +kernel
theorem d_law_246 : decode code 246 = .ok (.ifCond .ne 15, 3) := by decide +kernel
theorem d_law_249 : decode code 249 = .ok (.aload_n 3, 1) := by decide +kernel
theorem d_law_250 : decode code 250 = .ok (.iconst 0, 1) := by decide +kernel
theorem d_law_251 : decode code 251 = .ok (.laload, 1) := by decide +kernel
theorem d_law_252 : decode code 252 = .ok (.iload 6, 2) := by decide +kernel
theorem d_law_254 : decode code 254 = .ok (.i2l, 1) := by decide +kernel
theorem d_law_255 : decode code 255 = .ok (.lcmp, 1) := by decide +kernel
theorem d_law_256 : decode code 256 = .ok (.ifCond .eq 5, 3) := by decide +kernel
theorem d_law_259 : decode code 259 = .ok (.iconst 0, 1) := by decide +kernel
theorem d_law_260 : decode code 260 = .ok (.ireturn, 1) := by decide +kernel
theorem d_law_261 : decode code 261 = .ok (.goto 382, 3) := by decide +kernel
theorem d_law_264 : decode code 264 = .ok (.aload_n 1, 1) := by decide +kernel
theorem d_law_265 : decode code 265 = .ok (.aload_n 0, 1) := by decide +kernel
theorem d_law_266 : decode code 266 = .ok (.iload 4, 2) := by decide +kernel
theorem d_law_268 : decode code 268 = .ok (.iconst 1, 1) := by decide +kernel
theorem d_law_269 : decode code 269 = .ok (.iadd, 1) := by decide +kernel
theorem d_law_270 : decode code 270 = .ok (.iaload, 1) := by decide +kernel
theorem d_law_271 : decode code 271 = .ok (.invokestatic 65, 3) := by decide +kernel
theorem d_law_274 : decode code 274 = .ok (.istore 5, 2) := by decide +kernel
theorem d_law_276 : decode code 276 = .ok (.aload_n 2, 1) := by decide +kernel
theorem d_law_277 : decode code 277 = .ok (.aload_n 0, 1) := by decide +kernel
theorem d_law_278 : decode code 278 = .ok (.iload 4, 2) := by decide +kernel
theorem d_law_280 : decode code 280 = .ok (.iconst 1, 1) := by decide +kernel
theorem d_law_281 : decode code 281 = .ok (.iadd, 1) := by decide +kernel
theorem d_law_282 : decode code 282 = .ok (.iaload, 1) := by decide +kernel
theorem d_law_283 : decode code 283 = .ok (.invokevirtual 68, 3) := by decide +kernel
theorem d_law_286 : decode code 286 = .ok (.aload_n 2, 1) := by decide +kernel
theorem d_law_287 : decode code 287 = .ok (.invokevirtual 58, 3) := by decide +kernel
theorem d_law_290 : decode code 290 = .ok (.iload 5, 2) := by decide +kernel
theorem d_law_292 : decode code 292 = .ok (.if_icmp .eq 5, 3) := by decide +kernel
theorem d_law_295 : decode code 295 = .ok (.iconst 0, 1) := by decide +kernel
theorem d_law_296 : decode code 296 = .ok (.ireturn, 1) := by decide +kernel
theorem d_law_297 : decode code 297 = .ok (.goto 346, 3) := by decide +kernel
theorem d_law_300 : decode code 300 = .ok (.aload_n 1, 1) := by decide +kernel
theorem d_law_301 : decode code 301 = .ok (.invokestatic 69, 3) := by decide +kernel
theorem d_law_304 : decode code 304 = .ok (.istore 5, 2) := by decide +kernel
theorem d_law_306 : decode code 306 = .ok (.aload_n 2, 1) := by decide +kernel
theorem d_law_307 : decode code 307 = .ok (.invokevirtual 72, 3) := by decide +kernel
theorem d_law_310 : decode code 310 = .ok (.aload_n 2, 1) := by decide +kernel
theorem d_law_311 : decode code 311 = .ok (.invokevirtual 58, 3) := by decide +kernel
theorem d_law_314 : decode code 314 = .ok (.iload 5, 2) := by decide +kernel
theorem d_law_316 : decode code 316 = .ok (.if_icmp .eq 5, 3) := by decide +kernel
theorem d_law_319 : decode code 319 = .ok (.iconst 0, 1) := by decide +kernel
theorem d_law_320 : decode code 320 = .ok (.ireturn, 1) := by decide +kernel
theorem d_law_321 : decode code 321 = .ok (.goto 322, 3) := by decide +kernel
theorem d_law_324 : decode code 324 = .ok (.aload_n 1, 1) := by decide +kernel
theorem d_law_325 : decode code 325 = .ok (.aload_n 0, 1) := by decide +kernel
theorem d_law_326 : decode code 326 = .ok (.iload 4, 2) := by decide +kernel
theorem d_law_328 : decode code 328 = .ok (.iconst 1, 1) := by decide +kernel
theorem d_law_329 : decode code 329 = .ok (.iadd, 1) := by decide +kernel
theorem d_law_330 : decode code 330 = .ok (.iaload, 1) := by decide +kernel
theorem d_law_331 : decode code 331 = .ok (.i2l, 1) := by decide +kernel
theorem d_law_332 : decode code 332 = .ok (.bipush 32, 2) := by decide +kernel
theorem d_law_334 : decode code 334 = .ok (.lshl, 1) := by decide +kernel
theorem d_law_335 : decode code 335 = .ok (.aload_n 0, 1) := by decide +kernel
theorem d_law_336 : decode code 336 = .ok (.iload 4, 2) := by decide +kernel
theorem d_law_338 : decode code 338 = .ok (.iconst 2, 1) := by decide +kernel
theorem d_law_339 : decode code 339 = .ok (.iadd, 1) := by decide +kernel
theorem d_law_340 : decode code 340 = .ok (.iaload, 1) := by decide +kernel
theorem d_law_341 : decode code 341 = .ok (.i2l, 1) := by decide +kernel
theorem d_law_342 : decode code 342 = .ok (.ldc2_w 73, 3) := by decide +kernel
theorem d_law_345 : decode code 345 = .ok (.land, 1) := by decide +kernel
theorem d_law_346 : decode code 346 = .ok (.lor, 1) := by decide +kernel
theorem d_law_347 : decode code 347 = .ok (.invokevirtual 75, 3) := by decide +kernel
theorem d_law_350 : decode code 350 = .ok (.aload_n 2, 1) := by decide +kernel
theorem d_law_351 : decode code 351 = .ok (.aload_n 0, 1) := by decide +kernel
theorem d_law_352 : decode code 352 = .ok (.iload 4, 2) := by decide +kernel
theorem d_law_354 : decode code 354 = .ok (.iconst 1, 1) := by decide +kernel
theorem d_law_355 : decode code 355 = .ok (.iadd, 1) := by decide +kernel
theorem d_law_356 : decode code 356 = .ok (.iaload, 1) := by decide +kernel
theorem d_law_357 : decode code 357 = .ok (.i2l, 1) := by decide +kernel
theorem d_law_358 : decode code 358 = .ok (.bipush 32, 2) := by decide +kernel
theorem d_law_360 : decode code 360 = .ok (.lshl, 1) := by decide +kernel
theorem d_law_361 : decode code 361 = .ok (.aload_n 0, 1) := by decide +kernel
theorem d_law_362 : decode code 362 = .ok (.iload 4, 2) := by decide +kernel
theorem d_law_364 : decode code 364 = .ok (.iconst 2, 1) := by decide +kernel
theorem d_law_365 : decode code 365 = .ok (.iadd, 1) := by decide +kernel
theorem d_law_366 : decode code 366 = .ok (.iaload, 1) := by decide +kernel
theorem d_law_367 : decode code 367 = .ok (.i2l, 1) := by decide +kernel
theorem d_law_368 : decode code 368 = .ok (.ldc2_w 73, 3) := by decide +kernel
theorem d_law_371 : decode code 371 = .ok (.land, 1) := by decide +kernel
theorem d_law_372 : decode code 372 = .ok (.lor, 1) := by decide +kernel
theorem d_law_373 : decode code 373 = .ok (.invokevirtual 79, 3) := by decide +kernel
theorem d_law_376 : decode code 376 = .ok (.goto 267, 3) := by decide +kernel
theorem d_law_379 : decode code 379 = .ok (.aload_n 1, 1) := by decide +kernel
theorem d_law_380 : decode code 380 = .ok (.invokevirtual 80, 3) := by decide +kernel
theorem d_law_383 : decode code 383 = .ok (.aload_n 2, 1) := by decide +kernel
theorem d_law_384 : decode code 384 = .ok (.invokevirtual 83, 3) := by decide +kernel
theorem d_law_387 : decode code 387 = .ok (.if_icmp .eq 256, 3) := by decide +kernel
theorem d_law_390 : decode code 390 = .ok (.iconst 0, 1) := by decide +kernel
theorem d_law_391 : decode code 391 = .ok (.ireturn, 1) := by decide +kernel
theorem d_law_392 : decode code 392 = .ok (.aload_n 1, 1) := by decide +kernel
theorem d_law_393 : decode code 393 = .ok (.aload_n 3, 1) := by decide +kernel
theorem d_law_394 : decode code 394 = .ok (.invokestatic 84, 3) := by decide +kernel
theorem d_law_397 : decode code 397 = .ok (.istore 5, 2) := by decide +kernel
theorem d_law_399 : decode code 399 = .ok (.aload_n 2, 1) := by decide +kernel
theorem d_law_400 : decode code 400 = .ok (.invokevirtual 87, 3) := by decide +kernel
theorem d_law_403 : decode code 403 = .ok (.istore 6, 2) := by decide +kernel
theorem d_law_405 : decode code 405 = .ok (.aload_n 2, 1) := by decide +kernel
theorem d_law_406 : decode code 406 = .ok (.invokevirtual 58, 3) := by decide +kernel
theorem d_law_409 : decode code 409 = .ok (.iload 5, 2) := by decide +kernel
theorem d_law_411 : decode code 411 = .ok (.if_icmp .eq 5, 3) := by decide +kernel
theorem d_law_414 : decode code 414 = .ok (.iconst 0, 1) := by decide +kernel
theorem d_law_415 : decode code 415 = .ok (.ireturn, 1) := by decide +kernel
theorem d_law_416 : decode code 416 = .ok (.iload 5, 2) := by decide +kernel
theorem d_law_418 : decode code 418 = .ok (.ifCond .ne 15, 3) := by decide +kernel
theorem d_law_421 : decode code 421 = .ok (.aload_n 3, 1) := by decide +kernel
theorem d_law_422 : decode code 422 = .ok (.iconst 0, 1) := by decide +kernel
theorem d_law_423 : decode code 423 = .ok (.laload, 1) := by decide +kernel
theorem d_law_424 : decode code 424 = .ok (.iload 6, 2) := by decide +kernel
theorem d_law_426 : decode code 426 = .ok (.i2l, 1) := by decide +kernel
theorem d_law_427 : decode code 427 = .ok (.lcmp, 1) := by decide +kernel
theorem d_law_428 : decode code 428 = .ok (.ifCond .eq 5, 3) := by decide +kernel
theorem d_law_431 : decode code 431 = .ok (.iconst 0, 1) := by decide +kernel
theorem d_law_432 : decode code 432 = .ok (.ireturn, 1) := by decide +kernel
theorem d_law_433 : decode code 433 = .ok (.goto 210, 3) := by decide +kernel
theorem d_law_436 : decode code 436 = .ok (.aload_n 1, 1) := by decide +kernel
theorem d_law_437 : decode code 437 = .ok (.aload_n 3, 1) := by decide +kernel
theorem d_law_438 : decode code 438 = .ok (.invokestatic 88, 3) := by decide +kernel
theorem d_law_441 : decode code 441 = .ok (.istore 5, 2) := by decide +kernel
theorem d_law_443 : decode code 443 = .ok (.aload_n 2, 1) := by decide +kernel
theorem d_law_444 : decode code 444 = .ok (.invokevirtual 90, 3) := by decide +kernel
theorem d_law_447 : decode code 447 = .ok (.istore 6, 2) := by decide +kernel
theorem d_law_449 : decode code 449 = .ok (.aload_n 2, 1) := by decide +kernel
theorem d_law_450 : decode code 450 = .ok (.invokevirtual 58, 3) := by decide +kernel
theorem d_law_453 : decode code 453 = .ok (.iload 5, 2) := by decide +kernel
theorem d_law_455 : decode code 455 = .ok (.if_icmp .eq 5, 3) := by decide +kernel
theorem d_law_458 : decode code 458 = .ok (.iconst 0, 1) := by decide +kernel
theorem d_law_459 : decode code 459 = .ok (.ireturn, 1) := by decide +kernel
theorem d_law_460 : decode code 460 = .ok (.iload 5, 2) := by decide +kernel
theorem d_law_462 : decode code 462 = .ok (.ifCond .ne 15, 3) := by decide +kernel
theorem d_law_465 : decode code 465 = .ok (.aload_n 3, 1) := by decide +kernel
theorem d_law_466 : decode code 466 = .ok (.iconst 0, 1) := by decide +kernel
theorem d_law_467 : decode code 467 = .ok (.laload, 1) := by decide +kernel
theorem d_law_468 : decode code 468 = .ok (.iload 6, 2) := by decide +kernel
theorem d_law_470 : decode code 470 = .ok (.i2l, 1) := by decide +kernel
theorem d_law_471 : decode code 471 = .ok (.lcmp, 1) := by decide +kernel
theorem d_law_472 : decode code 472 = .ok (.ifCond .eq 5, 3) := by decide +kernel
theorem d_law_475 : decode code 475 = .ok (.iconst 0, 1) := by decide +kernel
theorem d_law_476 : decode code 476 = .ok (.ireturn, 1) := by decide +kernel
theorem d_law_477 : decode code 477 = .ok (.goto 166, 3) := by decide +kernel
theorem d_law_480 : decode code 480 = .ok (.aload_n 1, 1) := by decide +kernel
theorem d_law_481 : decode code 481 = .ok (.aload_n 0, 1) := by decide +kernel
theorem d_law_482 : decode code 482 = .ok (.iload 4, 2) := by decide +kernel
theorem d_law_484 : decode code 484 = .ok (.iconst 1, 1) := by decide +kernel
theorem d_law_485 : decode code 485 = .ok (.iadd, 1) := by decide +kernel
theorem d_law_486 : decode code 486 = .ok (.iaload, 1) := by decide +kernel
theorem d_law_487 : decode code 487 = .ok (.aload_n 0, 1) := by decide +kernel
theorem d_law_488 : decode code 488 = .ok (.iload 4, 2) := by decide +kernel
theorem d_law_490 : decode code 490 = .ok (.iconst 2, 1) := by decide +kernel
theorem d_law_491 : decode code 491 = .ok (.iadd, 1) := by decide +kernel
theorem d_law_492 : decode code 492 = .ok (.iaload, 1) := by decide +kernel
theorem d_law_493 : decode code 493 = .ok (.aload_n 3, 1) := by decide +kernel
theorem d_law_494 : decode code 494 = .ok (.invokestatic 91, 3) := by decide +kernel
theorem d_law_497 : decode code 497 = .ok (.istore 5, 2) := by decide +kernel
theorem d_law_499 : decode code 499 = .ok (.aload_n 2, 1) := by decide +kernel
theorem d_law_500 : decode code 500 = .ok (.aload_n 0, 1) := by decide +kernel
theorem d_law_501 : decode code 501 = .ok (.iload 4, 2) := by decide +kernel
theorem d_law_503 : decode code 503 = .ok (.iconst 1, 1) := by decide +kernel
theorem d_law_504 : decode code 504 = .ok (.iadd, 1) := by decide +kernel
theorem d_law_505 : decode code 505 = .ok (.iaload, 1) := by decide +kernel
theorem d_law_506 : decode code 506 = .ok (.aload_n 0, 1) := by decide +kernel
theorem d_law_507 : decode code 507 = .ok (.iload 4, 2) := by decide +kernel
theorem d_law_509 : decode code 509 = .ok (.iconst 2, 1) := by decide +kernel
theorem d_law_510 : decode code 510 = .ok (.iadd, 1) := by decide +kernel
theorem d_law_511 : decode code 511 = .ok (.iaload, 1) := by decide +kernel
theorem d_law_512 : decode code 512 = .ok (.invokevirtual 94, 3) := by decide +kernel
theorem d_law_515 : decode code 515 = .ok (.istore 6, 2) := by decide +kernel
theorem d_law_517 : decode code 517 = .ok (.aload_n 2, 1) := by decide +kernel
theorem d_law_518 : decode code 518 = .ok (.invokevirtual 58, 3) := by decide +kernel
theorem d_law_521 : decode code 521 = .ok (.iload 5, 2) := by decide +kernel
theorem d_law_523 : decode code 523 = .ok (.if_icmp .eq 5, 3) := by decide +kernel
theorem d_law_526 : decode code 526 = .ok (.iconst 0, 1) := by decide +kernel
theorem d_law_527 : decode code 527 = .ok (.ireturn, 1) := by decide +kernel
theorem d_law_528 : decode code 528 = .ok (.iload 5, 2) := by decide +kernel
theorem d_law_530 : decode code 530 = .ok (.ifCond .ne 15, 3) := by decide +kernel
theorem d_law_533 : decode code 533 = .ok (.aload_n 3, 1) := by decide +kernel
theorem d_law_534 : decode code 534 = .ok (.iconst 0, 1) := by decide +kernel
theorem d_law_535 : decode code 535 = .ok (.laload, 1) := by decide +kernel
theorem d_law_536 : decode code 536 = .ok (.iload 6, 2) := by decide +kernel
theorem d_law_538 : decode code 538 = .ok (.i2l, 1) := by decide +kernel
theorem d_law_539 : decode code 539 = .ok (.lcmp, 1) := by decide +kernel
theorem d_law_540 : decode code 540 = .ok (.ifCond .eq 5, 3) := by decide +kernel
theorem d_law_543 : decode code 543 = .ok (.iconst 0, 1) := by decide +kernel
theorem d_law_544 : decode code 544 = .ok (.ireturn, 1) := by decide +kernel
theorem d_law_545 : decode code 545 = .ok (.goto 98, 3) := by decide +kernel
theorem d_law_548 : decode code 548 = .ok (.aload_n 1, 1) := by decide +kernel
theorem d_law_549 : decode code 549 = .ok (.aload_n 0, 1) := by decide +kernel
theorem d_law_550 : decode code 550 = .ok (.iload 4, 2) := by decide +kernel
theorem d_law_552 : decode code 552 = .ok (.iconst 1, 1) := by decide +kernel
theorem d_law_553 : decode code 553 = .ok (.iadd, 1) := by decide +kernel
theorem d_law_554 : decode code 554 = .ok (.iaload, 1) := by decide +kernel
theorem d_law_555 : decode code 555 = .ok (.aload_n 3, 1) := by decide +kernel
theorem d_law_556 : decode code 556 = .ok (.invokestatic 95, 3) := by decide +kernel
theorem d_law_559 : decode code 559 = .ok (.istore 5, 2) := by decide +kernel
theorem d_law_561 : decode code 561 = .ok (.aload_n 2, 1) := by decide +kernel
theorem d_law_562 : decode code 562 = .ok (.aload_n 0, 1) := by decide +kernel
theorem d_law_563 : decode code 563 = .ok (.iload 4, 2) := by decide +kernel
theorem d_law_565 : decode code 565 = .ok (.iconst 1, 1) := by decide +kernel
theorem d_law_566 : decode code 566 = .ok (.iadd, 1) := by decide +kernel
theorem d_law_567 : decode code 567 = .ok (.iaload, 1) := by decide +kernel
theorem d_law_568 : decode code 568 = .ok (.invokevirtual 97, 3) := by decide +kernel
theorem d_law_571 : decode code 571 = .ok (.istore 6, 2) := by decide +kernel
theorem d_law_573 : decode code 573 = .ok (.aload_n 2, 1) := by decide +kernel
theorem d_law_574 : decode code 574 = .ok (.invokevirtual 58, 3) := by decide +kernel
theorem d_law_577 : decode code 577 = .ok (.iload 5, 2) := by decide +kernel
theorem d_law_579 : decode code 579 = .ok (.if_icmp .eq 5, 3) := by decide +kernel
theorem d_law_582 : decode code 582 = .ok (.iconst 0, 1) := by decide +kernel
theorem d_law_583 : decode code 583 = .ok (.ireturn, 1) := by decide +kernel
theorem d_law_584 : decode code 584 = .ok (.iload 5, 2) := by decide +kernel
theorem d_law_586 : decode code 586 = .ok (.ifCond .ne 15, 3) := by decide +kernel
theorem d_law_589 : decode code 589 = .ok (.aload_n 3, 1) := by decide +kernel
theorem d_law_590 : decode code 590 = .ok (.iconst 0, 1) := by decide +kernel
theorem d_law_591 : decode code 591 = .ok (.laload, 1) := by decide +kernel
theorem d_law_592 : decode code 592 = .ok (.iload 6, 2) := by decide +kernel
theorem d_law_594 : decode code 594 = .ok (.i2l, 1) := by decide +kernel
theorem d_law_595 : decode code 595 = .ok (.lcmp, 1) := by decide +kernel
theorem d_law_596 : decode code 596 = .ok (.ifCond .eq 5, 3) := by decide +kernel
theorem d_law_599 : decode code 599 = .ok (.iconst 0, 1) := by decide +kernel
theorem d_law_600 : decode code 600 = .ok (.ireturn, 1) := by decide +kernel
theorem d_law_601 : decode code 601 = .ok (.goto 42, 3) := by decide +kernel
theorem d_law_604 : decode code 604 = .ok (.aload_n 1, 1) := by decide +kernel
theorem d_law_605 : decode code 605 = .ok (.aload_n 0, 1) := by decide +kernel
theorem d_law_606 : decode code 606 = .ok (.iload 4, 2) := by decide +kernel
theorem d_law_608 : decode code 608 = .ok (.iconst 1, 1) := by decide +kernel
theorem d_law_609 : decode code 609 = .ok (.iadd, 1) := by decide +kernel
theorem d_law_610 : decode code 610 = .ok (.iaload, 1) := by decide +kernel
theorem d_law_611 : decode code 611 = .ok (.invokevirtual 98, 3) := by decide +kernel
theorem d_law_614 : decode code 614 = .ok (.aload_n 2, 1) := by decide +kernel
theorem d_law_615 : decode code 615 = .ok (.aload_n 0, 1) := by decide +kernel
theorem d_law_616 : decode code 616 = .ok (.iload 4, 2) := by decide +kernel
theorem d_law_618 : decode code 618 = .ok (.iconst 1, 1) := by decide +kernel
theorem d_law_619 : decode code 619 = .ok (.iadd, 1) := by decide +kernel
theorem d_law_620 : decode code 620 = .ok (.iaload, 1) := by decide +kernel
theorem d_law_621 : decode code 621 = .ok (.invokevirtual 101, 3) := by decide +kernel
theorem d_law_624 : decode code 624 = .ok (.if_icmp .eq 19, 3) := by decide +kernel
theorem d_law_627 : decode code 627 = .ok (.iconst 0, 1) := by decide +kernel
theorem d_law_628 : decode code 628 = .ok (.ireturn, 1) := by decide +kernel
theorem d_law_629 : decode code 629 = .ok (.aload_n 1, 1) := by decide +kernel
theorem d_law_630 : decode code 630 = .ok (.invokevirtual 102, 3) := by decide +kernel
theorem d_law_633 : decode code 633 = .ok (.aload_n 2, 1) := by decide +kernel
theorem d_law_634 : decode code 634 = .ok (.invokevirtual 106, 3) := by decide +kernel
theorem d_law_637 : decode code 637 = .ok (.lcmp, 1) := by decide +kernel
theorem d_law_638 : decode code 638 = .ok (.ifCond .eq 5, 3) := by decide +kernel
theorem d_law_641 : decode code 641 = .ok (.iconst 0, 1) := by decide +kernel
theorem d_law_642 : decode code 642 = .ok (.ireturn, 1) := by decide +kernel
theorem d_law_643 : decode code 643 = .ok (.iinc 4 6, 3) := by decide +kernel
theorem d_law_646 : decode code 646 = .ok (.goto (-623), 3) := by decide +kernel
theorem d_law_649 : decode code 649 = .ok (.iconst 1, 1) := by decide +kernel
theorem d_law_650 : decode code 650 = .ok (.ireturn, 1) := by decide +kernel
theorem k_287 : Cond.codeWith y_L_feed method_3_code 8 (some .int) [(0, 16, 19, 13)] ∈ sbW := sb_mem 287 (by decide +kernel) rfl
theorem k_373 : Cond.codeWith y_L_end method_4_code 4 (some .int) [(0, 9, 12, 19)] ∈ sbW := sb_mem 373 (by decide +kernel) rfl
theorem k_397 : Cond.codeWith y_L_use method_5_code 3 (some .int) [(0, 5, 8, 25), (0, 5, 11, 19)] ∈ sbW := sb_mem 397 (by decide +kernel) rfl
theorem k_477 : Cond.codeWith y_L_iv method_6_code 2 (some .int) [(0, 4, 7, 19)] ∈ sbW := sb_mem 477 (by decide +kernel) rfl
theorem k_486 : Cond.codeWith y_L_seal method_7_code 3 (some .int) [(0, 8, 11, 13)] ∈ sbW := sb_mem 486 (by decide +kernel) rfl
theorem k_622 : Cond.codeWith y_L_open method_8_code 3 (some .int) [(0, 8, 11, 13), (0, 8, 14, 37)] ∈ sbW := sb_mem 622 (by decide +kernel) rfl
theorem k_656 : Cond.codeWith y_L_back method_9_code 5 (some .int) [(0, 10, 13, 43)] ∈ sbW := sb_mem 656 (by decide +kernel) rfl
theorem k_682 : Cond.codeWith y_L_box method_10_code 4 (some .int) [(0, 9, 12, 43)] ∈ sbW := sb_mem 682 (by decide +kernel) rfl
/-- the law stands at pc, at its call i, with room for j -/
def LawAt (p : Program) (l : Launch) (e : Env) (s : State) (m : MethodId) (below : List Frame) (meth : Method) (c : Code) (b : Nat) (D : va_G) (cI cL cB : ClassId) (A : Nat → Prop) (Q : State → Prop) (ax r1 r2 r3 qi Gg Gn Gb Gt Gm Ga Gk Gh Gp Gq Hh Hn Hb Ht Hs Hw Hp P1 P2 P3 P4 P5 qo mo a1 a2 a3 a4 a5 a6 a7 a8 a9 a10 a11 a12 a13 a14 a15 a16 a17 a18 a19 a20 : Nat) (pc i j : Nat) : Prop := ∀ (v1 : Nat) (v2 : Nat) (v3 : Nat) (lt : Nat) (lb : Nat) (lz : Nat) (cp1 : Nat) (cp2 : Nat) (cp3 : Nat) (f1 : Nat → Int32) (f2 : Nat → Int32) (f3 : Nat → Int32) (i0 : Int32) (i1 : Int32) (i2 : Int32) (iu : Value) (ci : Int32) (nu : Int64) (se : Int32) (op : Int32) (fa : Int32) (gtu : Int32) (n0 : Int32) (n1 : Int32) (n2 : Int32) (b0 : Int32) (b1 : Int32) (b2 : Int32) (b3 : Int32) (y0 : Int32) (y1 : Int32) (y2 : Int32) (y3 : Int32) (m0 : Int32) (m1 : Int32) (m2 : Int32) (m3 : Int32) (ri : Int32) (rk : Nat → Int32) (th : Nat → Int64) (tl : Nat → Int64) (hi : Int64) (lo : Int64) (htu : Int32) (c0 : Int32) (c1 : Int32) (c2 : Int32) (bl : Nat → Int32) (sr : Nat → Int32) (sa : Nat → Int32) (z0 : Int32) (z1 : Int32) (z2 : Int32) (z3 : Int32) (k0 : Int64) (k1 : Int64) (k2 : Int64) (k3 : Int64) (k4 : Int64) (u0 : Int64) (u1 : Int64) (u2 : Int64) (u3 : Int64) (u4 : Int64) (s0 : Int64) (s1 : Int64) (s2 : Int64) (s3 : Int64) (s4 : Int64) (p0 : Int64) (p1 : Int64) (p2 : Int64) (p3 : Int64) (p4 : Int64) (d0 : Int32) (d1 : Int32) (d2 : Int32) (d3 : Int32) (thr : Int32) (bk : Int32) (rn : Nat) (kh : Int64) (kl : Int64) (sh : Int64) (sl : Int64) (gt : Nat → Nat) (gx : Nat → Nat) (gz : Nat → Nat) (gk : Nat → Nat) (gi : Nat → Nat) (gn : Nat → Nat) (gr : Nat → Nat) (gs : Nat → Nat) (gm : Nat → Nat) (gf : Nat → Nat) (wd : Nat → Int32) (td : Nat → Int32) (gu : Nat → Nat) (ga : Nat → Nat) (gb : Nat → Nat) (gd : Nat → Nat) (gc : Nat → Nat) (gg : Nat → Nat) (gw : Nat → Nat) (fo : Nat → Int64), (Rw j lt cp1 f1 gt) → (Rw j lz cp2 f2 gz) → (Rw j lb cp3 f3 gx) → (IvR i0 i1 i2 gi) → (ByM gk gi gn gr gs gm gf gu ga gb gd gc gg gw) → (bk = gtu + htu) → (AeR ci ri rn rk gr th tl) → (ChR ci sr gk) → (UsR ci iu Gg Hh) → ∀ (H : Heap) (locs : List Loc) (ls : Array Slot), va_P D vwCl [(ax, .inr (6, [.ref r1, .ref r2, .ref r3, .ref qi, .ref Gg, .ref Hh, iu, .int ci, .long nu, .int se, .int op, .int fa])), (r1, .inr (5, [.ref v1, .int (nI lt)])), (v1, .inl (cB, cp1, .inl f1)), (r2, .inr (5, [.ref v2, .int (nI lz)])), (v2, .inl (cB, cp2, .inl f2)), (r3, .inr (5, [.ref v3, .int (nI lb)])), (v3, .inl (cB, cp3, .inl f3)), (qi, .inl (cI, 3, .inl (i3 i0 i1 i2))), (Gg, .inr (1, [.ref Gn, .ref Gb, .ref Gt, .int 1, .int gtu, .ref Ga, .ref Gh, .ref Gm])), (Gn, .inl (cI, 3, .inl (i3 n0 n1 n2))), (Gb, .inl (cI, 4, .inl (i4 b0 b1 b2 b3))), (Gt, .inl (cI, 4, .inl (i4 y0 y1 y2 y3))), (Gm, .inl (cI, 4, .inl (i4 m0 m1 m2 m3))), (Ga, .inr (0, [.ref Gk, .int ri])), (Gk, .inl (cI, 60, .inl rk)), (Gh, .inr (3, [.ref Gp, .ref Gq, .long hi, .long lo])), (Gp, .inl (cL, 16, .inr (.inl th))), (Gq, .inl (cL, 16, .inr (.inl tl))), (Hh, .inr (2, [.ref Hn, .ref Hb, .ref Ht, .int 0, .int htu, .ref Hs, .ref Hw, .ref Hp])), (Hn, .inl (cI, 3, .inl (i3 c0 c1 c2))), (Hb, .inl (cI, 16, .inl bl)), (Hs, .inl (cI, 16, .inl sr)), (Hw, .inl (cI, 16, .inl sa)), (Ht, .inl (cI, 4, .inl (i4 z0 z1 z2 z3))), (Hp, .inr (4, [.ref P1, .ref P2, .ref P3, .ref P4, .ref P5])), (P1, .inl (cL, 5, .inr (.inl (l5 k0 k1 k2 k3 k4)))), (P2, .inl (cL, 5, .inr (.inl (l5 u0 u1 u2 u3 u4)))), (P3, .inl (cL, 5, .inr (.inl (l5 s0 s1 s2 s3 s4)))), (P4, .inl (cL, 5, .inr (.inl (l5 p0 p1 p2 p3 p4)))), (P5, .inl (cI, 4, .inl (i4 d0 d1 d2 d3))), (qo, .inl (cL, 1, .inr (.inl fo))), (mo, .inr (7, mFs thr a1 a2 a3 (nI lt) (nI lb) (nI lz) ci a4 a5 a6 nu bk se op fa a7 a8 a9 a10 a11 (nI rn) kh kl sh sl a12 a13 a14 a15 a16 a17 a18 a19 a20)), (a1, .inl (cI, 98816, .inl (nF gt))), (a2, .inl (cI, 98816, .inl (nF gx))), (a3, .inl (cI, 98816, .inl (nF gz))), (a4, .inl (cI, 32, .inl (nF gk))), (a5, .inl (cI, 12, .inl (nF gi))), (a6, .inl (cI, 12, .inl (nF gn))), (a7, .inl (cI, 256, .inl (nF sxT))), (a8, .inl (cI, 240, .inl (nF gr))), (a9, .inl (cI, 16, .inl (nF gs))), (a10, .inl (cI, 16, .inl (nF gm))), (a11, .inl (cI, 4, .inl (nF gf))), (a12, .inl (cI, 16, .inl wd)), (a13, .inl (cI, 16, .inl td)), (a14, .inl (cI, 64, .inl (nF gu))), (a15, .inl (cI, 17, .inl (nF ga))), (a16, .inl (cI, 17, .inl (nF gb))), (a17, .inl (cI, 40, .inl (nF gd))), (a18, .inl (cI, 17, .inl (nF gc))), (a19, .inl (cI, 16, .inl (nF gg))), (a20, .inl (cI, 16, .inl (nF gw)))] H → va_D A [(ax, .inr (6, [.ref r1, .ref r2, .ref r3, .ref qi, .ref Gg, .ref Hh, iu, .int ci, .long nu, .int se, .int op, .int fa])), (r1, .inr (5, [.ref v1, .int (nI lt)])), (v1, .inl (cB, cp1, .inl f1)), (r2, .inr (5, [.ref v2, .int (nI lz)])), (v2, .inl (cB, cp2, .inl f2)), (r3, .inr (5, [.ref v3, .int (nI lb)])), (v3, .inl (cB, cp3, .inl f3)), (qi, .inl (cI, 3, .inl (i3 i0 i1 i2))), (Gg, .inr (1, [.ref Gn, .ref Gb, .ref Gt, .int 1, .int gtu, .ref Ga, .ref Gh, .ref Gm])), (Gn, .inl (cI, 3, .inl (i3 n0 n1 n2))), (Gb, .inl (cI, 4, .inl (i4 b0 b1 b2 b3))), (Gt, .inl (cI, 4, .inl (i4 y0 y1 y2 y3))), (Gm, .inl (cI, 4, .inl (i4 m0 m1 m2 m3))), (Ga, .inr (0, [.ref Gk, .int ri])), (Gk, .inl (cI, 60, .inl rk)), (Gh, .inr (3, [.ref Gp, .ref Gq, .long hi, .long lo])), (Gp, .inl (cL, 16, .inr (.inl th))), (Gq, .inl (cL, 16, .inr (.inl tl))), (Hh, .inr (2, [.ref Hn, .ref Hb, .ref Ht, .int 0, .int htu, .ref Hs, .ref Hw, .ref Hp])), (Hn, .inl (cI, 3, .inl (i3 c0 c1 c2))), (Hb, .inl (cI, 16, .inl bl)), (Hs, .inl (cI, 16, .inl sr)), (Hw, .inl (cI, 16, .inl sa)), (Ht, .inl (cI, 4, .inl (i4 z0 z1 z2 z3))), (Hp, .inr (4, [.ref P1, .ref P2, .ref P3, .ref P4, .ref P5])), (P1, .inl (cL, 5, .inr (.inl (l5 k0 k1 k2 k3 k4)))), (P2, .inl (cL, 5, .inr (.inl (l5 u0 u1 u2 u3 u4)))), (P3, .inl (cL, 5, .inr (.inl (l5 s0 s1 s2 s3 s4)))), (P4, .inl (cL, 5, .inr (.inl (l5 p0 p1 p2 p3 p4)))), (P5, .inl (cI, 4, .inl (i4 d0 d1 d2 d3))), (qo, .inl (cL, 1, .inr (.inl fo))), (mo, .inr (7, mFs thr a1 a2 a3 (nI lt) (nI lb) (nI lz) ci a4 a5 a6 nu bk se op fa a7 a8 a9 a10 a11 (nI rn) kh kl sh sl a12 a13 a14 a15 a16 a17 a18 a19 a20)), (a1, .inl (cI, 98816, .inl (nF gt))), (a2, .inl (cI, 98816, .inl (nF gx))), (a3, .inl (cI, 98816, .inl (nF gz))), (a4, .inl (cI, 32, .inl (nF gk))), (a5, .inl (cI, 12, .inl (nF gi))), (a6, .inl (cI, 12, .inl (nF gn))), (a7, .inl (cI, 256, .inl (nF sxT))), (a8, .inl (cI, 240, .inl (nF gr))), (a9, .inl (cI, 16, .inl (nF gs))), (a10, .inl (cI, 16, .inl (nF gm))), (a11, .inl (cI, 4, .inl (nF gf))), (a12, .inl (cI, 16, .inl wd)), (a13, .inl (cI, 16, .inl td)), (a14, .inl (cI, 64, .inl (nF gu))), (a15, .inl (cI, 17, .inl (nF ga))), (a16, .inl (cI, 17, .inl (nF gb))), (a17, .inl (cI, 40, .inl (nF gd))), (a18, .inl (cI, 17, .inl (nF gc))), (a19, .inl (cI, 16, .inl (nF gg))), (a20, .inl (cI, 16, .inl (nF gw)))] → va_S A s.heap H locs → lv_has ls 7 [(4, .int (nI (6 * i))), (3, .ref qo), (2, .ref mo), (1, .ref ax), (0, .ref b)] → W p l e room_1 s m #[.ref b] below meth c H locs (60 + 3 * j) (300000 + 2 * (cp1 + cp2 + cp3) + 6 * j) Q (F0 m pc ls [])
def LawC (p : Program) (l : Launch) (s : State) (m : MethodId) (meth : Method) (c : Code) (b L : Nat) (xs : Nat → Int32) (D : va_G) (cI cL cB : ClassId) (tS tF : Nat) (A : Nat → Prop) : Prop :=
  p.tables.exec = Jvm.exec ∧ c.code = code ∧ c.maxLocals = 7 ∧ s.vm.findClass "SealBoxLaw" = some m.cls ∧ (∀ w ∈ sbW, w.before #[Value.ref b] s = true) ∧ sbG D cI cL cB tS tF A s s.heap ∧ sbTh A s s.heap ∧ va_X b L xs s s.heap ∧ b < s.heap.size ∧ ¬ A b ∧ meth.locks = false ∧ (∀ q, s.heap.size ≤ q → A q) ∧ l.flags = pinnedFlags ++ [noTraceFlag] ∧ L ≤ 3072

set_option maxHeartbeats 8000000 in
set_option maxRecDepth 100000 in
theorem law_feedN (p : Program) (l : Launch) (e : Env) (s : State) (m : MethodId) (below : List Frame) (meth : Method) (c : Code) (b : Nat) (D : va_G) (cI cL cB : ClassId) (A : Nat → Prop) (Q : State → Prop) (ax r1 r2 r3 qi Gg Gn Gb Gt Gm Ga Gk Gh Gp Gq Hh Hn Hb Ht Hs Hw Hp P1 P2 P3 P4 P5 qo mo a1 a2 a3 a4 a5 a6 a7 a8 a9 a10 a11 a12 a13 a14 a15 a16 a17 a18 a19 a20 : Nat) (L : Nat) (xs : Nat → Int32) (tS tF : Nat) (C : LawC p l s m meth c b L xs D cI cL cB tS tF A) (i : Nat) (hi6 : 6 * i + 6 ≤ L) (K : LawAt p l e s m below meth c b D cI cL cB A Q ax r1 r2 r3 qi Gg Gn Gb Gt Gm Ga Gk Gh Gp Gq Hh Hn Hb Ht Hs Hw Hp P1 P2 P3 P4 P5 qo mo a1 a2 a3 a4 a5 a6 a7 a8 a9 a10 a11 a12 a13 a14 a15 a16 a17 a18 a19 a20 643 i (i + 1)) (v1 : Nat) (v2 : Nat) (v3 : Nat) (lt : Nat) (lb : Nat) (lz : Nat) (cp1 : Nat) (cp2 : Nat) (cp3 : Nat) (f1 : Nat → Int32) (f2 : Nat → Int32) (f3 : Nat → Int32) (i0 : Int32) (i1 : Int32) (i2 : Int32) (ci : Int32) (nu : Int64) (se : Int32) (op : Int32) (fa : Int32) (gtu : Int32) (n0 : Int32) (n1 : Int32) (n2 : Int32) (b0 : Int32) (b1 : Int32) (b2 : Int32) (b3 : Int32) (y0 : Int32) (y1 : Int32) (y2 : Int32) (y3 : Int32) (m0 : Int32) (m1 : Int32) (m2 : Int32) (m3 : Int32) (ri : Int32) (rk : Nat → Int32) (th : Nat → Int64) (tl : Nat → Int64) (hi : Int64) (lo : Int64) (htu : Int32) (c0 : Int32) (c1 : Int32) (c2 : Int32) (bl : Nat → Int32) (sr : Nat → Int32) (sa : Nat → Int32) (z0 : Int32) (z1 : Int32) (z2 : Int32) (z3 : Int32) (k0 : Int64) (k1 : Int64) (k2 : Int64) (k3 : Int64) (k4 : Int64) (u0 : Int64) (u1 : Int64) (u2 : Int64) (u3 : Int64) (u4 : Int64) (s0 : Int64) (s1 : Int64) (s2 : Int64) (s3 : Int64) (s4 : Int64) (p0 : Int64) (p1 : Int64) (p2 : Int64) (p3 : Int64) (p4 : Int64) (d0 : Int32) (d1 : Int32) (d2 : Int32) (d3 : Int32) (thr : Int32) (bk : Int32) (rn : Nat) (kh : Int64) (kl : Int64) (sh : Int64) (sl : Int64) (gt : Nat → Nat) (gx : Nat → Nat) (gz : Nat → Nat) (gk : Nat → Nat) (gi : Nat → Nat) (gn : Nat → Nat) (gr : Nat → Nat) (gs : Nat → Nat) (gm : Nat → Nat) (gf : Nat → Nat) (wd : Nat → Int32) (td : Nat → Int32) (gu : Nat → Nat) (ga : Nat → Nat) (gb : Nat → Nat) (gd : Nat → Nat) (gc : Nat → Nat) (gg : Nat → Nat) (gw : Nat → Nat) (fo : Nat → Int64) (hR1 : Rw i lt cp1 f1 gt) (hR2 : Rw i lz cp2 f2 gz) (hR3 : Rw i lb cp3 f3 gx) (hI : IvR i0 i1 i2 gi) (hB : ByM gk gi gn gr gs gm gf gu ga gb gd gc gg gw) (hK0 : bk = gtu + htu) (hAe : AeR ci ri rn rk gr th tl) (hCh : ChR ci sr gk) (hU : UsR ci .null Gg Hh)  (H : Heap) (locs : List Loc) (ls : Array Slot) (hP : va_P D vwCl [(ax, .inr (6, [.ref r1, .ref r2, .ref r3, .ref qi, .ref Gg, .ref Hh, .null, .int ci, .long nu, .int se, .int op, .int fa])), (r1, .inr (5, [.ref v1, .int (nI lt)])), (v1, .inl (cB, cp1, .inl f1)), (r2, .inr (5, [.ref v2, .int (nI lz)])), (v2, .inl (cB, cp2, .inl f2)), (r3, .inr (5, [.ref v3, .int (nI lb)])), (v3, .inl (cB, cp3, .inl f3)), (qi, .inl (cI, 3, .inl (i3 i0 i1 i2))), (Gg, .inr (1, [.ref Gn, .ref Gb, .ref Gt, .int 1, .int gtu, .ref Ga, .ref Gh, .ref Gm])), (Gn, .inl (cI, 3, .inl (i3 n0 n1 n2))), (Gb, .inl (cI, 4, .inl (i4 b0 b1 b2 b3))), (Gt, .inl (cI, 4, .inl (i4 y0 y1 y2 y3))), (Gm, .inl (cI, 4, .inl (i4 m0 m1 m2 m3))), (Ga, .inr (0, [.ref Gk, .int ri])), (Gk, .inl (cI, 60, .inl rk)), (Gh, .inr (3, [.ref Gp, .ref Gq, .long hi, .long lo])), (Gp, .inl (cL, 16, .inr (.inl th))), (Gq, .inl (cL, 16, .inr (.inl tl))), (Hh, .inr (2, [.ref Hn, .ref Hb, .ref Ht, .int 0, .int htu, .ref Hs, .ref Hw, .ref Hp])), (Hn, .inl (cI, 3, .inl (i3 c0 c1 c2))), (Hb, .inl (cI, 16, .inl bl)), (Hs, .inl (cI, 16, .inl sr)), (Hw, .inl (cI, 16, .inl sa)), (Ht, .inl (cI, 4, .inl (i4 z0 z1 z2 z3))), (Hp, .inr (4, [.ref P1, .ref P2, .ref P3, .ref P4, .ref P5])), (P1, .inl (cL, 5, .inr (.inl (l5 k0 k1 k2 k3 k4)))), (P2, .inl (cL, 5, .inr (.inl (l5 u0 u1 u2 u3 u4)))), (P3, .inl (cL, 5, .inr (.inl (l5 s0 s1 s2 s3 s4)))), (P4, .inl (cL, 5, .inr (.inl (l5 p0 p1 p2 p3 p4)))), (P5, .inl (cI, 4, .inl (i4 d0 d1 d2 d3))), (qo, .inl (cL, 1, .inr (.inl fo))), (mo, .inr (7, mFs thr a1 a2 a3 (nI lt) (nI lb) (nI lz) ci a4 a5 a6 nu bk se op fa a7 a8 a9 a10 a11 (nI rn) kh kl sh sl a12 a13 a14 a15 a16 a17 a18 a19 a20)), (a1, .inl (cI, 98816, .inl (nF gt))), (a2, .inl (cI, 98816, .inl (nF gx))), (a3, .inl (cI, 98816, .inl (nF gz))), (a4, .inl (cI, 32, .inl (nF gk))), (a5, .inl (cI, 12, .inl (nF gi))), (a6, .inl (cI, 12, .inl (nF gn))), (a7, .inl (cI, 256, .inl (nF sxT))), (a8, .inl (cI, 240, .inl (nF gr))), (a9, .inl (cI, 16, .inl (nF gs))), (a10, .inl (cI, 16, .inl (nF gm))), (a11, .inl (cI, 4, .inl (nF gf))), (a12, .inl (cI, 16, .inl wd)), (a13, .inl (cI, 16, .inl td)), (a14, .inl (cI, 64, .inl (nF gu))), (a15, .inl (cI, 17, .inl (nF ga))), (a16, .inl (cI, 17, .inl (nF gb))), (a17, .inl (cI, 40, .inl (nF gd))), (a18, .inl (cI, 17, .inl (nF gc))), (a19, .inl (cI, 16, .inl (nF gg))), (a20, .inl (cI, 16, .inl (nF gw)))] H) (hD : va_D A [(ax, .inr (6, [.ref r1, .ref r2, .ref r3, .ref qi, .ref Gg, .ref Hh, .null, .int ci, .long nu, .int se, .int op, .int fa])), (r1, .inr (5, [.ref v1, .int (nI lt)])), (v1, .inl (cB, cp1, .inl f1)), (r2, .inr (5, [.ref v2, .int (nI lz)])), (v2, .inl (cB, cp2, .inl f2)), (r3, .inr (5, [.ref v3, .int (nI lb)])), (v3, .inl (cB, cp3, .inl f3)), (qi, .inl (cI, 3, .inl (i3 i0 i1 i2))), (Gg, .inr (1, [.ref Gn, .ref Gb, .ref Gt, .int 1, .int gtu, .ref Ga, .ref Gh, .ref Gm])), (Gn, .inl (cI, 3, .inl (i3 n0 n1 n2))), (Gb, .inl (cI, 4, .inl (i4 b0 b1 b2 b3))), (Gt, .inl (cI, 4, .inl (i4 y0 y1 y2 y3))), (Gm, .inl (cI, 4, .inl (i4 m0 m1 m2 m3))), (Ga, .inr (0, [.ref Gk, .int ri])), (Gk, .inl (cI, 60, .inl rk)), (Gh, .inr (3, [.ref Gp, .ref Gq, .long hi, .long lo])), (Gp, .inl (cL, 16, .inr (.inl th))), (Gq, .inl (cL, 16, .inr (.inl tl))), (Hh, .inr (2, [.ref Hn, .ref Hb, .ref Ht, .int 0, .int htu, .ref Hs, .ref Hw, .ref Hp])), (Hn, .inl (cI, 3, .inl (i3 c0 c1 c2))), (Hb, .inl (cI, 16, .inl bl)), (Hs, .inl (cI, 16, .inl sr)), (Hw, .inl (cI, 16, .inl sa)), (Ht, .inl (cI, 4, .inl (i4 z0 z1 z2 z3))), (Hp, .inr (4, [.ref P1, .ref P2, .ref P3, .ref P4, .ref P5])), (P1, .inl (cL, 5, .inr (.inl (l5 k0 k1 k2 k3 k4)))), (P2, .inl (cL, 5, .inr (.inl (l5 u0 u1 u2 u3 u4)))), (P3, .inl (cL, 5, .inr (.inl (l5 s0 s1 s2 s3 s4)))), (P4, .inl (cL, 5, .inr (.inl (l5 p0 p1 p2 p3 p4)))), (P5, .inl (cI, 4, .inl (i4 d0 d1 d2 d3))), (qo, .inl (cL, 1, .inr (.inl fo))), (mo, .inr (7, mFs thr a1 a2 a3 (nI lt) (nI lb) (nI lz) ci a4 a5 a6 nu bk se op fa a7 a8 a9 a10 a11 (nI rn) kh kl sh sl a12 a13 a14 a15 a16 a17 a18 a19 a20)), (a1, .inl (cI, 98816, .inl (nF gt))), (a2, .inl (cI, 98816, .inl (nF gx))), (a3, .inl (cI, 98816, .inl (nF gz))), (a4, .inl (cI, 32, .inl (nF gk))), (a5, .inl (cI, 12, .inl (nF gi))), (a6, .inl (cI, 12, .inl (nF gn))), (a7, .inl (cI, 256, .inl (nF sxT))), (a8, .inl (cI, 240, .inl (nF gr))), (a9, .inl (cI, 16, .inl (nF gs))), (a10, .inl (cI, 16, .inl (nF gm))), (a11, .inl (cI, 4, .inl (nF gf))), (a12, .inl (cI, 16, .inl wd)), (a13, .inl (cI, 16, .inl td)), (a14, .inl (cI, 64, .inl (nF gu))), (a15, .inl (cI, 17, .inl (nF ga))), (a16, .inl (cI, 17, .inl (nF gb))), (a17, .inl (cI, 40, .inl (nF gd))), (a18, .inl (cI, 17, .inl (nF gc))), (a19, .inl (cI, 16, .inl (nF gg))), (a20, .inl (cI, 16, .inl (nF gw)))]) (hS : va_S A s.heap H locs) (hl : lv_has ls 7 [(4, .int (nI (6 * i))), (3, .ref qo), (2, .ref mo), (1, .ref ax), (0, .ref b)]) : W p l e room_1 s m #[.ref b] below meth c H locs (60 + 3 * i) (300000 + 2 * (cp1 + cp2 + cp3) + 6 * i) Q (F0 m 104 ls []) := by
  obtain ⟨hx, hb, hml, hown, hts, hG, hTh, hX, hbl, hbA, hlocks, hA, hfl, hL⟩ := C
  have hi5 : i < 512 := by omega
  obtain ⟨hl1, hcap1⟩ := hR1.len hi5
  obtain ⟨hl2, hcap2⟩ := hR2.len hi5
  obtain ⟨hl3, hcap3⟩ := hR3.len hi5
  obtain ⟨e11, e12, e13, e14, e15, e16⟩ := id hR1
  obtain ⟨e21, e22, e23, e24, e25, e26⟩ := id hR2
  obtain ⟨e31, e32, e33, e34, e35, e36⟩ := id hR3
  obtain ⟨bk0, bi0, bn0, br0, bs0, bm0, bf0, bu0, ba0, bb0, bd0, bc0, bg0, bw0⟩ := id hB
  have hz9 := rsz_cap (lt + 20) cp1
  have hy9 := Rw.cap (i := i) (k := lt + 20) (by omega) e13
  refine lv_aload_n hx hb d_law_104 rfl (lv_at hl 3 rfl) ?_
  refine lv_aload_n hx hb d_law_105 rfl (lv_at hl 4 rfl) ?_
  refine lv_iload hx hb d_law_106 (lv_at hl 0 rfl) ?_
  refine lv_iconst (v := 1) hx hb d_law_108 (by decide) ?_
  refine lv_iadd hx hb d_law_109 ?_
  refine sb_topn ((6 * i) + 1) (nI_add (6 * i) 1) ?_
  refine sb_xld hx hb hX hbl hbA hS (n := (6 * i) + 1) rfl (by omega) (by omega) d_law_110 ?_
  refine lv_aload_n hx hb d_law_111 rfl (lv_at hl 4 rfl) ?_
  refine lv_iload hx hb d_law_112 (lv_at hl 0 rfl) ?_
  refine lv_iconst (v := 2) hx hb d_law_114 (by decide) ?_
  refine lv_iadd hx hb d_law_115 ?_
  refine sb_topn ((6 * i) + 2) (nI_add (6 * i) 2) ?_
  refine sb_xld hx hb hX hbl hbA hS (n := (6 * i) + 2) rfl (by omega) (by omega) d_law_116 ?_
  refine lv_aload_n hx hb d_law_117 rfl (lv_at hl 4 rfl) ?_
  refine lv_iload hx hb d_law_118 (lv_at hl 0 rfl) ?_
  refine lv_iconst (v := 3) hx hb d_law_120 (by decide) ?_
  refine lv_iadd hx hb d_law_121 ?_
  refine sb_topn ((6 * i) + 3) (nI_add (6 * i) 3) ?_
  refine sb_xld hx hb hX hbl hbA hS (n := (6 * i) + 3) rfl (by omega) (by omega) d_law_122 ?_
  refine lv_aload_n hx hb d_law_123 rfl (lv_at hl 4 rfl) ?_
  refine lv_iload hx hb d_law_124 (lv_at hl 0 rfl) ?_
  refine lv_iconst (v := 4) hx hb d_law_126 (by decide) ?_
  refine lv_iadd hx hb d_law_127 ?_
  refine sb_topn ((6 * i) + 4) (nI_add (6 * i) 4) ?_
  refine sb_xld hx hb hX hbl hbA hS (n := (6 * i) + 4) rfl (by omega) (by omega) d_law_128 ?_
  refine lv_aload_n hx hb d_law_129 rfl (lv_at hl 4 rfl) ?_
  refine lv_iload hx hb d_law_130 (lv_at hl 0 rfl) ?_
  refine lv_iconst (v := 5) hx hb d_law_132 (by decide) ?_
  refine lv_iadd hx hb d_law_133 ?_
  refine sb_topn ((6 * i) + 5) (nI_add (6 * i) 5) ?_
  refine sb_xld hx hb hX hbl hbA hS (n := (6 * i) + 5) rfl (by omega) (by omega) d_law_134 ?_
  refine lv_aload_n hx hb d_law_135 rfl (lv_at hl 1 rfl) ?_
  refine sb_calli (wr := [(r2, .inr (5, [.ref v2, .int (nI lz)])), (v2, .inl (cB, cp2, .inl f2)), (r3, .inr (5, [.ref v3, .int (nI lb)])), (v3, .inl (cB, cp3, .inl f3)), (qi, .inl (cI, 3, .inl (i3 i0 i1 i2))), (Gg, .inr (1, [.ref Gn, .ref Gb, .ref Gt, .int 1, .int gtu, .ref Ga, .ref Gh, .ref Gm])), (Gn, .inl (cI, 3, .inl (i3 n0 n1 n2))), (Gb, .inl (cI, 4, .inl (i4 b0 b1 b2 b3))), (Gt, .inl (cI, 4, .inl (i4 y0 y1 y2 y3))), (Gm, .inl (cI, 4, .inl (i4 m0 m1 m2 m3))), (Ga, .inr (0, [.ref Gk, .int ri])), (Gk, .inl (cI, 60, .inl rk)), (Gh, .inr (3, [.ref Gp, .ref Gq, .long hi, .long lo])), (Gp, .inl (cL, 16, .inr (.inl th))), (Gq, .inl (cL, 16, .inr (.inl tl))), (Hh, .inr (2, [.ref Hn, .ref Hb, .ref Ht, .int 0, .int htu, .ref Hs, .ref Hw, .ref Hp])), (Hn, .inl (cI, 3, .inl (i3 c0 c1 c2))), (Hb, .inl (cI, 16, .inl bl)), (Hs, .inl (cI, 16, .inl sr)), (Hw, .inl (cI, 16, .inl sa)), (Ht, .inl (cI, 4, .inl (i4 z0 z1 z2 z3))), (Hp, .inr (4, [.ref P1, .ref P2, .ref P3, .ref P4, .ref P5])), (P1, .inl (cL, 5, .inr (.inl (l5 k0 k1 k2 k3 k4)))), (P2, .inl (cL, 5, .inr (.inl (l5 u0 u1 u2 u3 u4)))), (P3, .inl (cL, 5, .inr (.inl (l5 s0 s1 s2 s3 s4)))), (P4, .inl (cL, 5, .inr (.inl (l5 p0 p1 p2 p3 p4)))), (P5, .inl (cI, 4, .inl (i4 d0 d1 d2 d3))), (mo, .inr (7, mFs thr a1 a2 a3 (nI lt) (nI lb) (nI lz) ci a4 a5 a6 nu bk se op fa a7 a8 a9 a10 a11 (nI rn) kh kl sh sl a12 a13 a14 a15 a16 a17 a18 a19 a20)), (a1, .inl (cI, 98816, .inl (nF gt))), (a2, .inl (cI, 98816, .inl (nF gx))), (a3, .inl (cI, 98816, .inl (nF gz))), (a4, .inl (cI, 32, .inl (nF gk))), (a5, .inl (cI, 12, .inl (nF gi))), (a6, .inl (cI, 12, .inl (nF gn))), (a7, .inl (cI, 256, .inl (nF sxT))), (a8, .inl (cI, 240, .inl (nF gr))), (a9, .inl (cI, 16, .inl (nF gs))), (a10, .inl (cI, 16, .inl (nF gm))), (a11, .inl (cI, 4, .inl (nF gf))), (a12, .inl (cI, 16, .inl wd)), (a13, .inl (cI, 16, .inl td)), (a14, .inl (cI, 64, .inl (nF gu))), (a15, .inl (cI, 17, .inl (nF ga))), (a16, .inl (cI, 17, .inl (nF gb))), (a17, .inl (cI, 40, .inl (nF gd))), (a18, .inl (cI, 17, .inl (nF gc))), (a19, .inl (cI, 16, .inl (nF gg))), (a20, .inl (cI, 16, .inl (nF gw)))]) (sb_runSW (n := 7) (As := [.ref ax, .int (xs ((6 * i) + 1)), .int (xs ((6 * i) + 2)), .int (xs ((6 * i) + 3)), .int (xs ((6 * i) + 4)), .int (xs ((6 * i) + 5)), .ref qo]) (rest := []) ⟨hx, hb, hml, hown, hts⟩ (c_L_feedN l D cI cL cB tS tF hfl ax r1 r2 r3 qi Gg Hh ci nu se op fa v1 lt cp1 f1 (xs ((6 * i) + 1)) (xs ((6 * i) + 2)) (xs ((6 * i) + 3)) (xs ((6 * i) + 4)) (xs ((6 * i) + 5)) qo fo _ e12 hcap1 e14 hl1) k_287 k_285 k_286 k_21 rfl rfl (by decide +kernel) ⟨Nat.le_of_ble_eq_true rfl, Nat.le_of_ble_eq_true rfl⟩ (sb_pSt hG hTh hP hD hS hA [0, 1, 2, 30] (by decide) rfl) rfl rfl hl.1 rfl (lv_room (Nat.le_of_ble_eq_true rfl)) d_law_136 ⟨by show 60 + 3 * i + 1 ≤ 601024; omega, by show 300000 + 2 * (cp1 + cp2 + cp3) + 6 * i + (rsz (lt + 20) cp1) ≤ 7293034; omega⟩) hP hD hS hA [0, 1, 2, 30] [3, 4, 5, 6, 7, 8, 9, 10, 11, 12, 13, 14, 15, 16, 17, 18, 19, 20, 21, 22, 23, 24, 25, 26, 27, 28, 29, 31, 32, 33, 34, 35, 36, 37, 38, 39, 40, 41, 42, 43, 44, 45, 46, 47, 48, 49, 50, 51] rfl rfl (by decide) (by decide) (fun r_4 u H locs hw_3 hP hD hS => ?_)
  obtain ⟨nb_1, nf_2⟩ := u
  try dsimp only at hw_3
  have hP : va_P D vwCl [(r2, .inr (5, [.ref v2, .int (nI lz)])), (v2, .inl (cB, cp2, .inl f2)), (r3, .inr (5, [.ref v3, .int (nI lb)])), (v3, .inl (cB, cp3, .inl f3)), (qi, .inl (cI, 3, .inl (i3 i0 i1 i2))), (Gg, .inr (1, [.ref Gn, .ref Gb, .ref Gt, .int 1, .int gtu, .ref Ga, .ref Gh, .ref Gm])), (Gn, .inl (cI, 3, .inl (i3 n0 n1 n2))), (Gb, .inl (cI, 4, .inl (i4 b0 b1 b2 b3))), (Gt, .inl (cI, 4, .inl (i4 y0 y1 y2 y3))), (Gm, .inl (cI, 4, .inl (i4 m0 m1 m2 m3))), (Ga, .inr (0, [.ref Gk, .int ri])), (Gk, .inl (cI, 60, .inl rk)), (Gh, .inr (3, [.ref Gp, .ref Gq, .long hi, .long lo])), (Gp, .inl (cL, 16, .inr (.inl th))), (Gq, .inl (cL, 16, .inr (.inl tl))), (Hh, .inr (2, [.ref Hn, .ref Hb, .ref Ht, .int 0, .int htu, .ref Hs, .ref Hw, .ref Hp])), (Hn, .inl (cI, 3, .inl (i3 c0 c1 c2))), (Hb, .inl (cI, 16, .inl bl)), (Hs, .inl (cI, 16, .inl sr)), (Hw, .inl (cI, 16, .inl sa)), (Ht, .inl (cI, 4, .inl (i4 z0 z1 z2 z3))), (Hp, .inr (4, [.ref P1, .ref P2, .ref P3, .ref P4, .ref P5])), (P1, .inl (cL, 5, .inr (.inl (l5 k0 k1 k2 k3 k4)))), (P2, .inl (cL, 5, .inr (.inl (l5 u0 u1 u2 u3 u4)))), (P3, .inl (cL, 5, .inr (.inl (l5 s0 s1 s2 s3 s4)))), (P4, .inl (cL, 5, .inr (.inl (l5 p0 p1 p2 p3 p4)))), (P5, .inl (cI, 4, .inl (i4 d0 d1 d2 d3))), (mo, .inr (7, mFs thr a1 a2 a3 (nI lt) (nI lb) (nI lz) ci a4 a5 a6 nu bk se op fa a7 a8 a9 a10 a11 (nI rn) kh kl sh sl a12 a13 a14 a15 a16 a17 a18 a19 a20)), (a1, .inl (cI, 98816, .inl (nF gt))), (a2, .inl (cI, 98816, .inl (nF gx))), (a3, .inl (cI, 98816, .inl (nF gz))), (a4, .inl (cI, 32, .inl (nF gk))), (a5, .inl (cI, 12, .inl (nF gi))), (a6, .inl (cI, 12, .inl (nF gn))), (a7, .inl (cI, 256, .inl (nF sxT))), (a8, .inl (cI, 240, .inl (nF gr))), (a9, .inl (cI, 16, .inl (nF gs))), (a10, .inl (cI, 16, .inl (nF gm))), (a11, .inl (cI, 4, .inl (nF gf))), (a12, .inl (cI, 16, .inl wd)), (a13, .inl (cI, 16, .inl td)), (a14, .inl (cI, 64, .inl (nF gu))), (a15, .inl (cI, 17, .inl (nF ga))), (a16, .inl (cI, 17, .inl (nF gb))), (a17, .inl (cI, 40, .inl (nF gd))), (a18, .inl (cI, 17, .inl (nF gc))), (a19, .inl (cI, 16, .inl (nF gg))), (a20, .inl (cI, 16, .inl (nF gw))), (ax, .inr (6, [.ref r1, .ref r2, .ref r3, .ref qi, .ref Gg, .ref Hh, .null, .int ci, .long nu, .int se, .int op, .int fa])), (r1, .inr (5, [.ref nb_1, .int (nI (lt + 20))])), (nb_1, .inl (cB, rnew (lt + 20) cp1, .inl (feed5 nf_2 (lt + 20) lt (xs ((6 * i) + 1)) (xs ((6 * i) + 2)) (xs ((6 * i) + 3)) (xs ((6 * i) + 4)) (xs ((6 * i) + 5))))), (qo, .inl (cL, 1, .inr (.inl (vp_updL fo 0 (nI (lt + 20)).toInt64))))] H := hP
  have hD : va_D A [(r2, .inr (5, [.ref v2, .int (nI lz)])), (v2, .inl (cB, cp2, .inl f2)), (r3, .inr (5, [.ref v3, .int (nI lb)])), (v3, .inl (cB, cp3, .inl f3)), (qi, .inl (cI, 3, .inl (i3 i0 i1 i2))), (Gg, .inr (1, [.ref Gn, .ref Gb, .ref Gt, .int 1, .int gtu, .ref Ga, .ref Gh, .ref Gm])), (Gn, .inl (cI, 3, .inl (i3 n0 n1 n2))), (Gb, .inl (cI, 4, .inl (i4 b0 b1 b2 b3))), (Gt, .inl (cI, 4, .inl (i4 y0 y1 y2 y3))), (Gm, .inl (cI, 4, .inl (i4 m0 m1 m2 m3))), (Ga, .inr (0, [.ref Gk, .int ri])), (Gk, .inl (cI, 60, .inl rk)), (Gh, .inr (3, [.ref Gp, .ref Gq, .long hi, .long lo])), (Gp, .inl (cL, 16, .inr (.inl th))), (Gq, .inl (cL, 16, .inr (.inl tl))), (Hh, .inr (2, [.ref Hn, .ref Hb, .ref Ht, .int 0, .int htu, .ref Hs, .ref Hw, .ref Hp])), (Hn, .inl (cI, 3, .inl (i3 c0 c1 c2))), (Hb, .inl (cI, 16, .inl bl)), (Hs, .inl (cI, 16, .inl sr)), (Hw, .inl (cI, 16, .inl sa)), (Ht, .inl (cI, 4, .inl (i4 z0 z1 z2 z3))), (Hp, .inr (4, [.ref P1, .ref P2, .ref P3, .ref P4, .ref P5])), (P1, .inl (cL, 5, .inr (.inl (l5 k0 k1 k2 k3 k4)))), (P2, .inl (cL, 5, .inr (.inl (l5 u0 u1 u2 u3 u4)))), (P3, .inl (cL, 5, .inr (.inl (l5 s0 s1 s2 s3 s4)))), (P4, .inl (cL, 5, .inr (.inl (l5 p0 p1 p2 p3 p4)))), (P5, .inl (cI, 4, .inl (i4 d0 d1 d2 d3))), (mo, .inr (7, mFs thr a1 a2 a3 (nI lt) (nI lb) (nI lz) ci a4 a5 a6 nu bk se op fa a7 a8 a9 a10 a11 (nI rn) kh kl sh sl a12 a13 a14 a15 a16 a17 a18 a19 a20)), (a1, .inl (cI, 98816, .inl (nF gt))), (a2, .inl (cI, 98816, .inl (nF gx))), (a3, .inl (cI, 98816, .inl (nF gz))), (a4, .inl (cI, 32, .inl (nF gk))), (a5, .inl (cI, 12, .inl (nF gi))), (a6, .inl (cI, 12, .inl (nF gn))), (a7, .inl (cI, 256, .inl (nF sxT))), (a8, .inl (cI, 240, .inl (nF gr))), (a9, .inl (cI, 16, .inl (nF gs))), (a10, .inl (cI, 16, .inl (nF gm))), (a11, .inl (cI, 4, .inl (nF gf))), (a12, .inl (cI, 16, .inl wd)), (a13, .inl (cI, 16, .inl td)), (a14, .inl (cI, 64, .inl (nF gu))), (a15, .inl (cI, 17, .inl (nF ga))), (a16, .inl (cI, 17, .inl (nF gb))), (a17, .inl (cI, 40, .inl (nF gd))), (a18, .inl (cI, 17, .inl (nF gc))), (a19, .inl (cI, 16, .inl (nF gg))), (a20, .inl (cI, 16, .inl (nF gw))), (ax, .inr (6, [.ref r1, .ref r2, .ref r3, .ref qi, .ref Gg, .ref Hh, .null, .int ci, .long nu, .int se, .int op, .int fa])), (r1, .inr (5, [.ref nb_1, .int (nI (lt + 20))])), (nb_1, .inl (cB, rnew (lt + 20) cp1, .inl (feed5 nf_2 (lt + 20) lt (xs ((6 * i) + 1)) (xs ((6 * i) + 2)) (xs ((6 * i) + 3)) (xs ((6 * i) + 4)) (xs ((6 * i) + 5))))), (qo, .inl (cL, 1, .inr (.inl (vp_updL fo 0 (nI (lt + 20)).toInt64))))] := hD
  obtain ⟨rfl, hw_3⟩ := hw_3
  refine W.widen (k := 60 + 3 * i + 1) (n := 300000 + 2 * (cp1 + cp2 + cp3) + 6 * i + rsz (lt + 20) cp1) (by omega) (by omega) ?_
  refine lv_istore (lv' := [(5, .int 0), (4, .int (nI (6 * i))), (3, .ref qo), (2, .ref mo), (1, .ref ax), (0, .ref b)]) hx hb d_law_139 hl (by decide) rfl (fun ls hl => ?_)
  refine lv_aload_n hx hb d_law_141 rfl (lv_at hl 3 rfl) ?_
  refine lv_aload_n hx hb d_law_142 rfl (lv_at hl 5 rfl) ?_
  refine lv_iload hx hb d_law_143 (lv_at hl 1 rfl) ?_
  refine lv_iconst (v := 1) hx hb d_law_145 (by decide) ?_
  refine lv_iadd hx hb d_law_146 ?_
  refine sb_topn ((6 * i) + 1) (nI_add (6 * i) 1) ?_
  refine sb_xld hx hb hX hbl hbA hS (n := (6 * i) + 1) rfl (by omega) (by omega) d_law_147 ?_
  refine lv_aload_n hx hb d_law_148 rfl (lv_at hl 5 rfl) ?_
  refine lv_iload hx hb d_law_149 (lv_at hl 1 rfl) ?_
  refine lv_iconst (v := 2) hx hb d_law_151 (by decide) ?_
  refine lv_iadd hx hb d_law_152 ?_
  refine sb_topn ((6 * i) + 2) (nI_add (6 * i) 2) ?_
  refine sb_xld hx hb hX hbl hbA hS (n := (6 * i) + 2) rfl (by omega) (by omega) d_law_153 ?_
  refine lv_aload_n hx hb d_law_154 rfl (lv_at hl 5 rfl) ?_
  refine lv_iload hx hb d_law_155 (lv_at hl 1 rfl) ?_
  refine lv_iconst (v := 3) hx hb d_law_157 (by decide) ?_
  refine lv_iadd hx hb d_law_158 ?_
  refine sb_topn ((6 * i) + 3) (nI_add (6 * i) 3) ?_
  refine sb_xld hx hb hX hbl hbA hS (n := (6 * i) + 3) rfl (by omega) (by omega) d_law_159 ?_
  refine lv_aload_n hx hb d_law_160 rfl (lv_at hl 5 rfl) ?_
  refine lv_iload hx hb d_law_161 (lv_at hl 1 rfl) ?_
  refine lv_iconst (v := 4) hx hb d_law_163 (by decide) ?_
  refine lv_iadd hx hb d_law_164 ?_
  refine sb_topn ((6 * i) + 4) (nI_add (6 * i) 4) ?_
  refine sb_xld hx hb hX hbl hbA hS (n := (6 * i) + 4) rfl (by omega) (by omega) d_law_165 ?_
  refine lv_aload_n hx hb d_law_166 rfl (lv_at hl 5 rfl) ?_
  refine lv_iload hx hb d_law_167 (lv_at hl 1 rfl) ?_
  refine lv_iconst (v := 5) hx hb d_law_169 (by decide) ?_
  refine lv_iadd hx hb d_law_170 ?_
  refine sb_topn ((6 * i) + 5) (nI_add (6 * i) 5) ?_
  refine sb_xld hx hb hX hbl hbA hS (n := (6 * i) + 5) rfl (by omega) (by omega) d_law_171 ?_
  refine sb_calli (wr := [(r2, .inr (5, [.ref v2, .int (nI lz)])), (v2, .inl (cB, cp2, .inl f2)), (r3, .inr (5, [.ref v3, .int (nI lb)])), (v3, .inl (cB, cp3, .inl f3)), (qi, .inl (cI, 3, .inl (i3 i0 i1 i2))), (Gg, .inr (1, [.ref Gn, .ref Gb, .ref Gt, .int 1, .int gtu, .ref Ga, .ref Gh, .ref Gm])), (Gn, .inl (cI, 3, .inl (i3 n0 n1 n2))), (Gb, .inl (cI, 4, .inl (i4 b0 b1 b2 b3))), (Gt, .inl (cI, 4, .inl (i4 y0 y1 y2 y3))), (Gm, .inl (cI, 4, .inl (i4 m0 m1 m2 m3))), (Ga, .inr (0, [.ref Gk, .int ri])), (Gk, .inl (cI, 60, .inl rk)), (Gh, .inr (3, [.ref Gp, .ref Gq, .long hi, .long lo])), (Gp, .inl (cL, 16, .inr (.inl th))), (Gq, .inl (cL, 16, .inr (.inl tl))), (Hh, .inr (2, [.ref Hn, .ref Hb, .ref Ht, .int 0, .int htu, .ref Hs, .ref Hw, .ref Hp])), (Hn, .inl (cI, 3, .inl (i3 c0 c1 c2))), (Hb, .inl (cI, 16, .inl bl)), (Hs, .inl (cI, 16, .inl sr)), (Hw, .inl (cI, 16, .inl sa)), (Ht, .inl (cI, 4, .inl (i4 z0 z1 z2 z3))), (Hp, .inr (4, [.ref P1, .ref P2, .ref P3, .ref P4, .ref P5])), (P1, .inl (cL, 5, .inr (.inl (l5 k0 k1 k2 k3 k4)))), (P2, .inl (cL, 5, .inr (.inl (l5 u0 u1 u2 u3 u4)))), (P3, .inl (cL, 5, .inr (.inl (l5 s0 s1 s2 s3 s4)))), (P4, .inl (cL, 5, .inr (.inl (l5 p0 p1 p2 p3 p4)))), (P5, .inl (cI, 4, .inl (i4 d0 d1 d2 d3))), (a2, .inl (cI, 98816, .inl (nF gx))), (a3, .inl (cI, 98816, .inl (nF gz))), (a4, .inl (cI, 32, .inl (nF gk))), (a5, .inl (cI, 12, .inl (nF gi))), (a6, .inl (cI, 12, .inl (nF gn))), (a7, .inl (cI, 256, .inl (nF sxT))), (a8, .inl (cI, 240, .inl (nF gr))), (a9, .inl (cI, 16, .inl (nF gs))), (a10, .inl (cI, 16, .inl (nF gm))), (a11, .inl (cI, 4, .inl (nF gf))), (a12, .inl (cI, 16, .inl wd)), (a13, .inl (cI, 16, .inl td)), (a14, .inl (cI, 64, .inl (nF gu))), (a15, .inl (cI, 17, .inl (nF ga))), (a16, .inl (cI, 17, .inl (nF gb))), (a17, .inl (cI, 40, .inl (nF gd))), (a18, .inl (cI, 17, .inl (nF gc))), (a19, .inl (cI, 16, .inl (nF gg))), (a20, .inl (cI, 16, .inl (nF gw))), (ax, .inr (6, [.ref r1, .ref r2, .ref r3, .ref qi, .ref Gg, .ref Hh, .null, .int ci, .long nu, .int se, .int op, .int fa])), (r1, .inr (5, [.ref nb_1, .int (nI (lt + 20))])), (nb_1, .inl (cB, rnew (lt + 20) cp1, .inl (feed5 nf_2 (lt + 20) lt (xs ((6 * i) + 1)) (xs ((6 * i) + 2)) (xs ((6 * i) + 3)) (xs ((6 * i) + 4)) (xs ((6 * i) + 5))))), (qo, .inl (cL, 1, .inr (.inl (vp_updL fo 0 (nI (lt + 20)).toInt64))))]) (va_runV (As := [.int (xs ((6 * i) + 1)), .int (xs ((6 * i) + 2)), .int (xs ((6 * i) + 3)), .int (xs ((6 * i) + 4)), .int (xs ((6 * i) + 5))]) (rest := []) ⟨hx, hb, hml, hown, hts⟩ (c_M_feed l D cI cL cB tS tF mo a1 a2 a3 a4 a5 a6 a7 a8 a9 a10 a11 a12 a13 a14 a15 a16 a17 a18 a19 a20 thr ci bk se op fa lt lb lz rn nu kh kl sh sl gt (xs ((6 * i) + 1)) (xs ((6 * i) + 2)) (xs ((6 * i) + 3)) (xs ((6 * i) + 4)) (xs ((6 * i) + 5)) _ hl1) (cwV 5 hts (sb_gV k_807 k_808 k_809 k_30 k_810) rfl rfl rfl (by decide +kernel) ⟨Nat.le_of_ble_eq_true rfl, Nat.le_of_ble_eq_true rfl⟩) (sb_pV hG hP hD hS hA [27, 28] (by decide) rfl (ci := 7) (q0 := 27) rfl rfl) rfl rfl hl.1 rfl (lv_room (Nat.le_of_ble_eq_true rfl)) d_law_172 ⟨by show 60 + 3 * i + 1 + 0 ≤ 601024; omega, by show 300000 + 2 * (cp1 + cp2 + cp3) + 6 * i + rsz (lt + 20) cp1 + 0 ≤ 7293034; omega⟩) hP hD hS hA [27, 28] [0, 1, 2, 3, 4, 5, 6, 7, 8, 9, 10, 11, 12, 13, 14, 15, 16, 17, 18, 19, 20, 21, 22, 23, 24, 25, 26, 29, 30, 31, 32, 33, 34, 35, 36, 37, 38, 39, 40, 41, 42, 43, 44, 45, 46, 47, 48, 49, 50, 51] rfl rfl (by decide) (by decide) (fun r_6 u H locs hw_5 hP hD hS => ?_)
  have hP : va_P D vwCl [(r2, .inr (5, [.ref v2, .int (nI lz)])), (v2, .inl (cB, cp2, .inl f2)), (r3, .inr (5, [.ref v3, .int (nI lb)])), (v3, .inl (cB, cp3, .inl f3)), (qi, .inl (cI, 3, .inl (i3 i0 i1 i2))), (Gg, .inr (1, [.ref Gn, .ref Gb, .ref Gt, .int 1, .int gtu, .ref Ga, .ref Gh, .ref Gm])), (Gn, .inl (cI, 3, .inl (i3 n0 n1 n2))), (Gb, .inl (cI, 4, .inl (i4 b0 b1 b2 b3))), (Gt, .inl (cI, 4, .inl (i4 y0 y1 y2 y3))), (Gm, .inl (cI, 4, .inl (i4 m0 m1 m2 m3))), (Ga, .inr (0, [.ref Gk, .int ri])), (Gk, .inl (cI, 60, .inl rk)), (Gh, .inr (3, [.ref Gp, .ref Gq, .long hi, .long lo])), (Gp, .inl (cL, 16, .inr (.inl th))), (Gq, .inl (cL, 16, .inr (.inl tl))), (Hh, .inr (2, [.ref Hn, .ref Hb, .ref Ht, .int 0, .int htu, .ref Hs, .ref Hw, .ref Hp])), (Hn, .inl (cI, 3, .inl (i3 c0 c1 c2))), (Hb, .inl (cI, 16, .inl bl)), (Hs, .inl (cI, 16, .inl sr)), (Hw, .inl (cI, 16, .inl sa)), (Ht, .inl (cI, 4, .inl (i4 z0 z1 z2 z3))), (Hp, .inr (4, [.ref P1, .ref P2, .ref P3, .ref P4, .ref P5])), (P1, .inl (cL, 5, .inr (.inl (l5 k0 k1 k2 k3 k4)))), (P2, .inl (cL, 5, .inr (.inl (l5 u0 u1 u2 u3 u4)))), (P3, .inl (cL, 5, .inr (.inl (l5 s0 s1 s2 s3 s4)))), (P4, .inl (cL, 5, .inr (.inl (l5 p0 p1 p2 p3 p4)))), (P5, .inl (cI, 4, .inl (i4 d0 d1 d2 d3))), (a2, .inl (cI, 98816, .inl (nF gx))), (a3, .inl (cI, 98816, .inl (nF gz))), (a4, .inl (cI, 32, .inl (nF gk))), (a5, .inl (cI, 12, .inl (nF gi))), (a6, .inl (cI, 12, .inl (nF gn))), (a7, .inl (cI, 256, .inl (nF sxT))), (a8, .inl (cI, 240, .inl (nF gr))), (a9, .inl (cI, 16, .inl (nF gs))), (a10, .inl (cI, 16, .inl (nF gm))), (a11, .inl (cI, 4, .inl (nF gf))), (a12, .inl (cI, 16, .inl wd)), (a13, .inl (cI, 16, .inl td)), (a14, .inl (cI, 64, .inl (nF gu))), (a15, .inl (cI, 17, .inl (nF ga))), (a16, .inl (cI, 17, .inl (nF gb))), (a17, .inl (cI, 40, .inl (nF gd))), (a18, .inl (cI, 17, .inl (nF gc))), (a19, .inl (cI, 16, .inl (nF gg))), (a20, .inl (cI, 16, .inl (nF gw))), (ax, .inr (6, [.ref r1, .ref r2, .ref r3, .ref qi, .ref Gg, .ref Hh, .null, .int ci, .long nu, .int se, .int op, .int fa])), (r1, .inr (5, [.ref nb_1, .int (nI (lt + 20))])), (nb_1, .inl (cB, rnew (lt + 20) cp1, .inl (feed5 nf_2 (lt + 20) lt (xs ((6 * i) + 1)) (xs ((6 * i) + 2)) (xs ((6 * i) + 3)) (xs ((6 * i) + 4)) (xs ((6 * i) + 5))))), (qo, .inl (cL, 1, .inr (.inl (vp_updL fo 0 (nI (lt + 20)).toInt64)))), (mo, .inr (7, mFs 0 a1 a2 a3 (nI (lt + 20)) (nI lb) (nI lz) ci a4 a5 a6 nu bk se op fa a7 a8 a9 a10 a11 (nI rn) kh kl sh sl a12 a13 a14 a15 a16 a17 a18 a19 a20)), (a1, .inl (cI, 98816, .inl (nF (iter (fdS (xs ((6 * i) + 1)) (xs ((6 * i) + 2)) (xs ((6 * i) + 3)) (xs ((6 * i) + 4)) (xs ((6 * i) + 5)) lt) 20 gt))))] H := hP
  have hD : va_D A [(r2, .inr (5, [.ref v2, .int (nI lz)])), (v2, .inl (cB, cp2, .inl f2)), (r3, .inr (5, [.ref v3, .int (nI lb)])), (v3, .inl (cB, cp3, .inl f3)), (qi, .inl (cI, 3, .inl (i3 i0 i1 i2))), (Gg, .inr (1, [.ref Gn, .ref Gb, .ref Gt, .int 1, .int gtu, .ref Ga, .ref Gh, .ref Gm])), (Gn, .inl (cI, 3, .inl (i3 n0 n1 n2))), (Gb, .inl (cI, 4, .inl (i4 b0 b1 b2 b3))), (Gt, .inl (cI, 4, .inl (i4 y0 y1 y2 y3))), (Gm, .inl (cI, 4, .inl (i4 m0 m1 m2 m3))), (Ga, .inr (0, [.ref Gk, .int ri])), (Gk, .inl (cI, 60, .inl rk)), (Gh, .inr (3, [.ref Gp, .ref Gq, .long hi, .long lo])), (Gp, .inl (cL, 16, .inr (.inl th))), (Gq, .inl (cL, 16, .inr (.inl tl))), (Hh, .inr (2, [.ref Hn, .ref Hb, .ref Ht, .int 0, .int htu, .ref Hs, .ref Hw, .ref Hp])), (Hn, .inl (cI, 3, .inl (i3 c0 c1 c2))), (Hb, .inl (cI, 16, .inl bl)), (Hs, .inl (cI, 16, .inl sr)), (Hw, .inl (cI, 16, .inl sa)), (Ht, .inl (cI, 4, .inl (i4 z0 z1 z2 z3))), (Hp, .inr (4, [.ref P1, .ref P2, .ref P3, .ref P4, .ref P5])), (P1, .inl (cL, 5, .inr (.inl (l5 k0 k1 k2 k3 k4)))), (P2, .inl (cL, 5, .inr (.inl (l5 u0 u1 u2 u3 u4)))), (P3, .inl (cL, 5, .inr (.inl (l5 s0 s1 s2 s3 s4)))), (P4, .inl (cL, 5, .inr (.inl (l5 p0 p1 p2 p3 p4)))), (P5, .inl (cI, 4, .inl (i4 d0 d1 d2 d3))), (a2, .inl (cI, 98816, .inl (nF gx))), (a3, .inl (cI, 98816, .inl (nF gz))), (a4, .inl (cI, 32, .inl (nF gk))), (a5, .inl (cI, 12, .inl (nF gi))), (a6, .inl (cI, 12, .inl (nF gn))), (a7, .inl (cI, 256, .inl (nF sxT))), (a8, .inl (cI, 240, .inl (nF gr))), (a9, .inl (cI, 16, .inl (nF gs))), (a10, .inl (cI, 16, .inl (nF gm))), (a11, .inl (cI, 4, .inl (nF gf))), (a12, .inl (cI, 16, .inl wd)), (a13, .inl (cI, 16, .inl td)), (a14, .inl (cI, 64, .inl (nF gu))), (a15, .inl (cI, 17, .inl (nF ga))), (a16, .inl (cI, 17, .inl (nF gb))), (a17, .inl (cI, 40, .inl (nF gd))), (a18, .inl (cI, 17, .inl (nF gc))), (a19, .inl (cI, 16, .inl (nF gg))), (a20, .inl (cI, 16, .inl (nF gw))), (ax, .inr (6, [.ref r1, .ref r2, .ref r3, .ref qi, .ref Gg, .ref Hh, .null, .int ci, .long nu, .int se, .int op, .int fa])), (r1, .inr (5, [.ref nb_1, .int (nI (lt + 20))])), (nb_1, .inl (cB, rnew (lt + 20) cp1, .inl (feed5 nf_2 (lt + 20) lt (xs ((6 * i) + 1)) (xs ((6 * i) + 2)) (xs ((6 * i) + 3)) (xs ((6 * i) + 4)) (xs ((6 * i) + 5))))), (qo, .inl (cL, 1, .inr (.inl (vp_updL fo 0 (nI (lt + 20)).toInt64)))), (mo, .inr (7, mFs 0 a1 a2 a3 (nI (lt + 20)) (nI lb) (nI lz) ci a4 a5 a6 nu bk se op fa a7 a8 a9 a10 a11 (nI rn) kh kl sh sl a12 a13 a14 a15 a16 a17 a18 a19 a20)), (a1, .inl (cI, 98816, .inl (nF (iter (fdS (xs ((6 * i) + 1)) (xs ((6 * i) + 2)) (xs ((6 * i) + 3)) (xs ((6 * i) + 4)) (xs ((6 * i) + 5)) lt) 20 gt))))] := hD
  subst hw_5
  refine lv_topi (fun x_7 ex_7 => ?_)
  refine lv_istore (lv' := [(6, .int x_7), (5, .int 0), (4, .int (nI (6 * i))), (3, .ref qo), (2, .ref mo), (1, .ref ax), (0, .ref b)]) hx hb d_law_175 hl (by decide) rfl (fun ls hl => ?_)
  refine lv_aload_n hx hb d_law_177 rfl (lv_at hl 4 rfl) ?_
  refine vp_callSi (va_runV (As := []) (rest := []) ⟨hx, hb, hml, hown, hts⟩ (c_M_thrown l D cI cL cB tS tF mo a1 a2 a3 a4 a5 a6 a7 a8 a9 a10 a11 a12 a13 a14 a15 a16 a17 a18 a19 a20 0 ci bk se op fa (lt + 20) lb lz rn nu kh kl sh sl ) (cwV 0 hts (sb_gV k_803 k_804 k_805 k_30 k_806) rfl rfl rfl (by decide +kernel) ⟨Nat.le_of_ble_eq_true rfl, Nat.le_of_ble_eq_true rfl⟩) (sb_rV hG hP hS [50] rfl (ci := 7) (q0 := 50) rfl rfl) rfl rfl hl.1 rfl (lv_room (Nat.le_of_ble_eq_true rfl)) d_law_178 ⟨by show 60 + 3 * i + 1 + 0 ≤ 601024; omega, by show 300000 + 2 * (cp1 + cp2 + cp3) + 6 * i + rsz (lt + 20) cp1 + 0 ≤ 7293034; omega⟩).run (fun r_8 er_8 => ?_)
  subst er_8
  refine lv_iload hx hb d_law_181 (lv_at hl 1 rfl) ?_
  refine lv_icmp_eq (tgt := 188) hx hb d_law_183 (by decide) (fun c_9 => ?_) (fun c_9 => absurd rfl c_9)
  refine lv_iload hx hb d_law_188 (lv_at hl 1 rfl) ?_
  refine lv_if_ne (tgt := 205) hx hb d_law_190 (by decide) (fun c_10 => absurd rfl c_10) (fun c_10 => ?_)
  refine lv_aload_n hx hb d_law_193 rfl (lv_at hl 3 rfl) ?_
  refine lv_iconst (v := 0) hx hb d_law_194 (by decide) ?_
  refine sb_lld hx hb hG.1 hP 49 rfl 0 rfl (by omega) (by omega) d_law_195 ?_
  refine lv_iload hx hb d_law_196 (lv_at hl 0 rfl) ?_
  refine lv_i2l (v := x_7.toInt64) hx hb d_law_198 rfl ?_
  refine W.lcmp hx hb d_law_199 ?_
  refine lv_if_eq (tgt := 205) hx hb d_law_200 (by decide) (fun c_11 => ?_) (fun c_11 => absurd (by rw [pk_uLs, ex_7]; exact (lg0 _ _).2 rfl) c_11)
  refine lv_goto (tgt := 643) hx hb d_law_205 (by decide) ?_
  refine W.widen (k := 60 + 3 * (i + 1)) (n := 300000 + 2 * ((rnew (lt + 20) cp1) + cp2 + cp3) + 6 * (i + 1)) (by omega) (by omega) ?_
  exact K nb_1 v2 v3 (lt + 20) lb lz (rnew (lt + 20) cp1) cp2 cp3 (feed5 nf_2 (lt + 20) lt (xs ((6 * i) + 1)) (xs ((6 * i) + 2)) (xs ((6 * i) + 3)) (xs ((6 * i) + 4)) (xs ((6 * i) + 5))) f2 f3 i0 i1 i2 .null ci nu se op fa gtu n0 n1 n2 b0 b1 b2 b3 y0 y1 y2 y3 m0 m1 m2 m3 ri rk th tl hi lo htu c0 c1 c2 bl sr sa z0 z1 z2 z3 k0 k1 k2 k3 k4 u0 u1 u2 u3 u4 s0 s1 s2 s3 s4 p0 p1 p2 p3 p4 d0 d1 d2 d3 0 bk rn kh kl sh sl (iter (fdS (xs ((6 * i) + 1)) (xs ((6 * i) + 2)) (xs ((6 * i) + 3)) (xs ((6 * i) + 4)) (xs ((6 * i) + 5)) lt) 20 gt) gx gz gk gi gn gr gs gm gf wd td gu ga gb gd gc gg gw (vp_updL fo 0 (nI (lt + 20)).toInt64) (⟨by omega, rnew_le _ _, Rw.cap (by omega) e13, feed_fit hw_3.2, feed_RB e15 hw_3.1 e12 (by omega) _ _ _ _ _, fdS_B _ _ _ _ _ _ 20 _ e16⟩) hR2.mono hR3.mono hI hB hK0 hAe hCh hU _ _ ls (hP.sub [46, 47, 48, 0, 1, 2, 3, 4, 5, 6, 7, 8, 9, 10, 11, 12, 13, 14, 15, 16, 17, 18, 19, 20, 21, 22, 23, 24, 25, 26, 49, 50, 51, 27, 28, 29, 30, 31, 32, 33, 34, 35, 36, 37, 38, 39, 40, 41, 42, 43, 44, 45] rfl) (hD.sub [46, 47, 48, 0, 1, 2, 3, 4, 5, 6, 7, 8, 9, 10, 11, 12, 13, 14, 15, 16, 17, 18, 19, 20, 21, 22, 23, 24, 25, 26, 49, 50, 51, 27, 28, 29, 30, 31, 32, 33, 34, 35, 36, 37, 38, 39, 40, 41, 42, 43, 44, 45] (by decide) rfl) hS (lv_sub hl [2, 3, 4, 5, 6] rfl)

set_option maxHeartbeats 8000000 in
set_option maxRecDepth 100000 in
theorem law_feedR (p : Program) (l : Launch) (e : Env) (s : State) (m : MethodId) (below : List Frame) (meth : Method) (c : Code) (b : Nat) (D : va_G) (cI cL cB : ClassId) (A : Nat → Prop) (Q : State → Prop) (ax r1 r2 r3 qi Gg Gn Gb Gt Gm Ga Gk Gh Gp Gq Hh Hn Hb Ht Hs Hw Hp P1 P2 P3 P4 P5 qo mo a1 a2 a3 a4 a5 a6 a7 a8 a9 a10 a11 a12 a13 a14 a15 a16 a17 a18 a19 a20 : Nat) (L : Nat) (xs : Nat → Int32) (tS tF : Nat) (C : LawC p l s m meth c b L xs D cI cL cB tS tF A) (i : Nat) (hi6 : 6 * i + 6 ≤ L) (K : LawAt p l e s m below meth c b D cI cL cB A Q ax r1 r2 r3 qi Gg Gn Gb Gt Gm Ga Gk Gh Gp Gq Hh Hn Hb Ht Hs Hw Hp P1 P2 P3 P4 P5 qo mo a1 a2 a3 a4 a5 a6 a7 a8 a9 a10 a11 a12 a13 a14 a15 a16 a17 a18 a19 a20 643 i (i + 1)) (iuN : Nat) (v1 : Nat) (v2 : Nat) (v3 : Nat) (lt : Nat) (lb : Nat) (lz : Nat) (cp1 : Nat) (cp2 : Nat) (cp3 : Nat) (f1 : Nat → Int32) (f2 : Nat → Int32) (f3 : Nat → Int32) (i0 : Int32) (i1 : Int32) (i2 : Int32) (ci : Int32) (nu : Int64) (se : Int32) (op : Int32) (fa : Int32) (gtu : Int32) (n0 : Int32) (n1 : Int32) (n2 : Int32) (b0 : Int32) (b1 : Int32) (b2 : Int32) (b3 : Int32) (y0 : Int32) (y1 : Int32) (y2 : Int32) (y3 : Int32) (m0 : Int32) (m1 : Int32) (m2 : Int32) (m3 : Int32) (ri : Int32) (rk : Nat → Int32) (th : Nat → Int64) (tl : Nat → Int64) (hi : Int64) (lo : Int64) (htu : Int32) (c0 : Int32) (c1 : Int32) (c2 : Int32) (bl : Nat → Int32) (sr : Nat → Int32) (sa : Nat → Int32) (z0 : Int32) (z1 : Int32) (z2 : Int32) (z3 : Int32) (k0 : Int64) (k1 : Int64) (k2 : Int64) (k3 : Int64) (k4 : Int64) (u0 : Int64) (u1 : Int64) (u2 : Int64) (u3 : Int64) (u4 : Int64) (s0 : Int64) (s1 : Int64) (s2 : Int64) (s3 : Int64) (s4 : Int64) (p0 : Int64) (p1 : Int64) (p2 : Int64) (p3 : Int64) (p4 : Int64) (d0 : Int32) (d1 : Int32) (d2 : Int32) (d3 : Int32) (thr : Int32) (bk : Int32) (rn : Nat) (kh : Int64) (kl : Int64) (sh : Int64) (sl : Int64) (gt : Nat → Nat) (gx : Nat → Nat) (gz : Nat → Nat) (gk : Nat → Nat) (gi : Nat → Nat) (gn : Nat → Nat) (gr : Nat → Nat) (gs : Nat → Nat) (gm : Nat → Nat) (gf : Nat → Nat) (wd : Nat → Int32) (td : Nat → Int32) (gu : Nat → Nat) (ga : Nat → Nat) (gb : Nat → Nat) (gd : Nat → Nat) (gc : Nat → Nat) (gg : Nat → Nat) (gw : Nat → Nat) (fo : Nat → Int64) (hR1 : Rw i lt cp1 f1 gt) (hR2 : Rw i lz cp2 f2 gz) (hR3 : Rw i lb cp3 f3 gx) (hI : IvR i0 i1 i2 gi) (hB : ByM gk gi gn gr gs gm gf gu ga gb gd gc gg gw) (hK0 : bk = gtu + htu) (hAe : AeR ci ri rn rk gr th tl) (hCh : ChR ci sr gk) (hU : UsR ci (.ref iuN) Gg Hh)  (H : Heap) (locs : List Loc) (ls : Array Slot) (hP : va_P D vwCl [(ax, .inr (6, [.ref r1, .ref r2, .ref r3, .ref qi, .ref Gg, .ref Hh, .ref iuN, .int ci, .long nu, .int se, .int op, .int fa])), (r1, .inr (5, [.ref v1, .int (nI lt)])), (v1, .inl (cB, cp1, .inl f1)), (r2, .inr (5, [.ref v2, .int (nI lz)])), (v2, .inl (cB, cp2, .inl f2)), (r3, .inr (5, [.ref v3, .int (nI lb)])), (v3, .inl (cB, cp3, .inl f3)), (qi, .inl (cI, 3, .inl (i3 i0 i1 i2))), (Gg, .inr (1, [.ref Gn, .ref Gb, .ref Gt, .int 1, .int gtu, .ref Ga, .ref Gh, .ref Gm])), (Gn, .inl (cI, 3, .inl (i3 n0 n1 n2))), (Gb, .inl (cI, 4, .inl (i4 b0 b1 b2 b3))), (Gt, .inl (cI, 4, .inl (i4 y0 y1 y2 y3))), (Gm, .inl (cI, 4, .inl (i4 m0 m1 m2 m3))), (Ga, .inr (0, [.ref Gk, .int ri])), (Gk, .inl (cI, 60, .inl rk)), (Gh, .inr (3, [.ref Gp, .ref Gq, .long hi, .long lo])), (Gp, .inl (cL, 16, .inr (.inl th))), (Gq, .inl (cL, 16, .inr (.inl tl))), (Hh, .inr (2, [.ref Hn, .ref Hb, .ref Ht, .int 0, .int htu, .ref Hs, .ref Hw, .ref Hp])), (Hn, .inl (cI, 3, .inl (i3 c0 c1 c2))), (Hb, .inl (cI, 16, .inl bl)), (Hs, .inl (cI, 16, .inl sr)), (Hw, .inl (cI, 16, .inl sa)), (Ht, .inl (cI, 4, .inl (i4 z0 z1 z2 z3))), (Hp, .inr (4, [.ref P1, .ref P2, .ref P3, .ref P4, .ref P5])), (P1, .inl (cL, 5, .inr (.inl (l5 k0 k1 k2 k3 k4)))), (P2, .inl (cL, 5, .inr (.inl (l5 u0 u1 u2 u3 u4)))), (P3, .inl (cL, 5, .inr (.inl (l5 s0 s1 s2 s3 s4)))), (P4, .inl (cL, 5, .inr (.inl (l5 p0 p1 p2 p3 p4)))), (P5, .inl (cI, 4, .inl (i4 d0 d1 d2 d3))), (qo, .inl (cL, 1, .inr (.inl fo))), (mo, .inr (7, mFs thr a1 a2 a3 (nI lt) (nI lb) (nI lz) ci a4 a5 a6 nu bk se op fa a7 a8 a9 a10 a11 (nI rn) kh kl sh sl a12 a13 a14 a15 a16 a17 a18 a19 a20)), (a1, .inl (cI, 98816, .inl (nF gt))), (a2, .inl (cI, 98816, .inl (nF gx))), (a3, .inl (cI, 98816, .inl (nF gz))), (a4, .inl (cI, 32, .inl (nF gk))), (a5, .inl (cI, 12, .inl (nF gi))), (a6, .inl (cI, 12, .inl (nF gn))), (a7, .inl (cI, 256, .inl (nF sxT))), (a8, .inl (cI, 240, .inl (nF gr))), (a9, .inl (cI, 16, .inl (nF gs))), (a10, .inl (cI, 16, .inl (nF gm))), (a11, .inl (cI, 4, .inl (nF gf))), (a12, .inl (cI, 16, .inl wd)), (a13, .inl (cI, 16, .inl td)), (a14, .inl (cI, 64, .inl (nF gu))), (a15, .inl (cI, 17, .inl (nF ga))), (a16, .inl (cI, 17, .inl (nF gb))), (a17, .inl (cI, 40, .inl (nF gd))), (a18, .inl (cI, 17, .inl (nF gc))), (a19, .inl (cI, 16, .inl (nF gg))), (a20, .inl (cI, 16, .inl (nF gw)))] H) (hD : va_D A [(ax, .inr (6, [.ref r1, .ref r2, .ref r3, .ref qi, .ref Gg, .ref Hh, .ref iuN, .int ci, .long nu, .int se, .int op, .int fa])), (r1, .inr (5, [.ref v1, .int (nI lt)])), (v1, .inl (cB, cp1, .inl f1)), (r2, .inr (5, [.ref v2, .int (nI lz)])), (v2, .inl (cB, cp2, .inl f2)), (r3, .inr (5, [.ref v3, .int (nI lb)])), (v3, .inl (cB, cp3, .inl f3)), (qi, .inl (cI, 3, .inl (i3 i0 i1 i2))), (Gg, .inr (1, [.ref Gn, .ref Gb, .ref Gt, .int 1, .int gtu, .ref Ga, .ref Gh, .ref Gm])), (Gn, .inl (cI, 3, .inl (i3 n0 n1 n2))), (Gb, .inl (cI, 4, .inl (i4 b0 b1 b2 b3))), (Gt, .inl (cI, 4, .inl (i4 y0 y1 y2 y3))), (Gm, .inl (cI, 4, .inl (i4 m0 m1 m2 m3))), (Ga, .inr (0, [.ref Gk, .int ri])), (Gk, .inl (cI, 60, .inl rk)), (Gh, .inr (3, [.ref Gp, .ref Gq, .long hi, .long lo])), (Gp, .inl (cL, 16, .inr (.inl th))), (Gq, .inl (cL, 16, .inr (.inl tl))), (Hh, .inr (2, [.ref Hn, .ref Hb, .ref Ht, .int 0, .int htu, .ref Hs, .ref Hw, .ref Hp])), (Hn, .inl (cI, 3, .inl (i3 c0 c1 c2))), (Hb, .inl (cI, 16, .inl bl)), (Hs, .inl (cI, 16, .inl sr)), (Hw, .inl (cI, 16, .inl sa)), (Ht, .inl (cI, 4, .inl (i4 z0 z1 z2 z3))), (Hp, .inr (4, [.ref P1, .ref P2, .ref P3, .ref P4, .ref P5])), (P1, .inl (cL, 5, .inr (.inl (l5 k0 k1 k2 k3 k4)))), (P2, .inl (cL, 5, .inr (.inl (l5 u0 u1 u2 u3 u4)))), (P3, .inl (cL, 5, .inr (.inl (l5 s0 s1 s2 s3 s4)))), (P4, .inl (cL, 5, .inr (.inl (l5 p0 p1 p2 p3 p4)))), (P5, .inl (cI, 4, .inl (i4 d0 d1 d2 d3))), (qo, .inl (cL, 1, .inr (.inl fo))), (mo, .inr (7, mFs thr a1 a2 a3 (nI lt) (nI lb) (nI lz) ci a4 a5 a6 nu bk se op fa a7 a8 a9 a10 a11 (nI rn) kh kl sh sl a12 a13 a14 a15 a16 a17 a18 a19 a20)), (a1, .inl (cI, 98816, .inl (nF gt))), (a2, .inl (cI, 98816, .inl (nF gx))), (a3, .inl (cI, 98816, .inl (nF gz))), (a4, .inl (cI, 32, .inl (nF gk))), (a5, .inl (cI, 12, .inl (nF gi))), (a6, .inl (cI, 12, .inl (nF gn))), (a7, .inl (cI, 256, .inl (nF sxT))), (a8, .inl (cI, 240, .inl (nF gr))), (a9, .inl (cI, 16, .inl (nF gs))), (a10, .inl (cI, 16, .inl (nF gm))), (a11, .inl (cI, 4, .inl (nF gf))), (a12, .inl (cI, 16, .inl wd)), (a13, .inl (cI, 16, .inl td)), (a14, .inl (cI, 64, .inl (nF gu))), (a15, .inl (cI, 17, .inl (nF ga))), (a16, .inl (cI, 17, .inl (nF gb))), (a17, .inl (cI, 40, .inl (nF gd))), (a18, .inl (cI, 17, .inl (nF gc))), (a19, .inl (cI, 16, .inl (nF gg))), (a20, .inl (cI, 16, .inl (nF gw)))]) (hS : va_S A s.heap H locs) (hl : lv_has ls 7 [(4, .int (nI (6 * i))), (3, .ref qo), (2, .ref mo), (1, .ref ax), (0, .ref b)]) : W p l e room_1 s m #[.ref b] below meth c H locs (60 + 3 * i) (300000 + 2 * (cp1 + cp2 + cp3) + 6 * i) Q (F0 m 104 ls []) := by
  obtain ⟨hx, hb, hml, hown, hts, hG, hTh, hX, hbl, hbA, hlocks, hA, hfl, hL⟩ := C
  have hi5 : i < 512 := by omega
  obtain ⟨hl1, hcap1⟩ := hR1.len hi5
  obtain ⟨hl2, hcap2⟩ := hR2.len hi5
  obtain ⟨hl3, hcap3⟩ := hR3.len hi5
  obtain ⟨e11, e12, e13, e14, e15, e16⟩ := id hR1
  obtain ⟨e21, e22, e23, e24, e25, e26⟩ := id hR2
  obtain ⟨e31, e32, e33, e34, e35, e36⟩ := id hR3
  obtain ⟨bk0, bi0, bn0, br0, bs0, bm0, bf0, bu0, ba0, bb0, bd0, bc0, bg0, bw0⟩ := id hB
  have hz9 := rsz_cap (lt + 20) cp1
  have hy9 := Rw.cap (i := i) (k := lt + 20) (by omega) e13
  refine lv_aload_n hx hb d_law_104 rfl (lv_at hl 3 rfl) ?_
  refine lv_aload_n hx hb d_law_105 rfl (lv_at hl 4 rfl) ?_
  refine lv_iload hx hb d_law_106 (lv_at hl 0 rfl) ?_
  refine lv_iconst (v := 1) hx hb d_law_108 (by decide) ?_
  refine lv_iadd hx hb d_law_109 ?_
  refine sb_topn ((6 * i) + 1) (nI_add (6 * i) 1) ?_
  refine sb_xld hx hb hX hbl hbA hS (n := (6 * i) + 1) rfl (by omega) (by omega) d_law_110 ?_
  refine lv_aload_n hx hb d_law_111 rfl (lv_at hl 4 rfl) ?_
  refine lv_iload hx hb d_law_112 (lv_at hl 0 rfl) ?_
  refine lv_iconst (v := 2) hx hb d_law_114 (by decide) ?_
  refine lv_iadd hx hb d_law_115 ?_
  refine sb_topn ((6 * i) + 2) (nI_add (6 * i) 2) ?_
  refine sb_xld hx hb hX hbl hbA hS (n := (6 * i) + 2) rfl (by omega) (by omega) d_law_116 ?_
  refine lv_aload_n hx hb d_law_117 rfl (lv_at hl 4 rfl) ?_
  refine lv_iload hx hb d_law_118 (lv_at hl 0 rfl) ?_
  refine lv_iconst (v := 3) hx hb d_law_120 (by decide) ?_
  refine lv_iadd hx hb d_law_121 ?_
  refine sb_topn ((6 * i) + 3) (nI_add (6 * i) 3) ?_
  refine sb_xld hx hb hX hbl hbA hS (n := (6 * i) + 3) rfl (by omega) (by omega) d_law_122 ?_
  refine lv_aload_n hx hb d_law_123 rfl (lv_at hl 4 rfl) ?_
  refine lv_iload hx hb d_law_124 (lv_at hl 0 rfl) ?_
  refine lv_iconst (v := 4) hx hb d_law_126 (by decide) ?_
  refine lv_iadd hx hb d_law_127 ?_
  refine sb_topn ((6 * i) + 4) (nI_add (6 * i) 4) ?_
  refine sb_xld hx hb hX hbl hbA hS (n := (6 * i) + 4) rfl (by omega) (by omega) d_law_128 ?_
  refine lv_aload_n hx hb d_law_129 rfl (lv_at hl 4 rfl) ?_
  refine lv_iload hx hb d_law_130 (lv_at hl 0 rfl) ?_
  refine lv_iconst (v := 5) hx hb d_law_132 (by decide) ?_
  refine lv_iadd hx hb d_law_133 ?_
  refine sb_topn ((6 * i) + 5) (nI_add (6 * i) 5) ?_
  refine sb_xld hx hb hX hbl hbA hS (n := (6 * i) + 5) rfl (by omega) (by omega) d_law_134 ?_
  refine lv_aload_n hx hb d_law_135 rfl (lv_at hl 1 rfl) ?_
  refine sb_calli (wr := [(r2, .inr (5, [.ref v2, .int (nI lz)])), (v2, .inl (cB, cp2, .inl f2)), (r3, .inr (5, [.ref v3, .int (nI lb)])), (v3, .inl (cB, cp3, .inl f3)), (qi, .inl (cI, 3, .inl (i3 i0 i1 i2))), (Gg, .inr (1, [.ref Gn, .ref Gb, .ref Gt, .int 1, .int gtu, .ref Ga, .ref Gh, .ref Gm])), (Gn, .inl (cI, 3, .inl (i3 n0 n1 n2))), (Gb, .inl (cI, 4, .inl (i4 b0 b1 b2 b3))), (Gt, .inl (cI, 4, .inl (i4 y0 y1 y2 y3))), (Gm, .inl (cI, 4, .inl (i4 m0 m1 m2 m3))), (Ga, .inr (0, [.ref Gk, .int ri])), (Gk, .inl (cI, 60, .inl rk)), (Gh, .inr (3, [.ref Gp, .ref Gq, .long hi, .long lo])), (Gp, .inl (cL, 16, .inr (.inl th))), (Gq, .inl (cL, 16, .inr (.inl tl))), (Hh, .inr (2, [.ref Hn, .ref Hb, .ref Ht, .int 0, .int htu, .ref Hs, .ref Hw, .ref Hp])), (Hn, .inl (cI, 3, .inl (i3 c0 c1 c2))), (Hb, .inl (cI, 16, .inl bl)), (Hs, .inl (cI, 16, .inl sr)), (Hw, .inl (cI, 16, .inl sa)), (Ht, .inl (cI, 4, .inl (i4 z0 z1 z2 z3))), (Hp, .inr (4, [.ref P1, .ref P2, .ref P3, .ref P4, .ref P5])), (P1, .inl (cL, 5, .inr (.inl (l5 k0 k1 k2 k3 k4)))), (P2, .inl (cL, 5, .inr (.inl (l5 u0 u1 u2 u3 u4)))), (P3, .inl (cL, 5, .inr (.inl (l5 s0 s1 s2 s3 s4)))), (P4, .inl (cL, 5, .inr (.inl (l5 p0 p1 p2 p3 p4)))), (P5, .inl (cI, 4, .inl (i4 d0 d1 d2 d3))), (mo, .inr (7, mFs thr a1 a2 a3 (nI lt) (nI lb) (nI lz) ci a4 a5 a6 nu bk se op fa a7 a8 a9 a10 a11 (nI rn) kh kl sh sl a12 a13 a14 a15 a16 a17 a18 a19 a20)), (a1, .inl (cI, 98816, .inl (nF gt))), (a2, .inl (cI, 98816, .inl (nF gx))), (a3, .inl (cI, 98816, .inl (nF gz))), (a4, .inl (cI, 32, .inl (nF gk))), (a5, .inl (cI, 12, .inl (nF gi))), (a6, .inl (cI, 12, .inl (nF gn))), (a7, .inl (cI, 256, .inl (nF sxT))), (a8, .inl (cI, 240, .inl (nF gr))), (a9, .inl (cI, 16, .inl (nF gs))), (a10, .inl (cI, 16, .inl (nF gm))), (a11, .inl (cI, 4, .inl (nF gf))), (a12, .inl (cI, 16, .inl wd)), (a13, .inl (cI, 16, .inl td)), (a14, .inl (cI, 64, .inl (nF gu))), (a15, .inl (cI, 17, .inl (nF ga))), (a16, .inl (cI, 17, .inl (nF gb))), (a17, .inl (cI, 40, .inl (nF gd))), (a18, .inl (cI, 17, .inl (nF gc))), (a19, .inl (cI, 16, .inl (nF gg))), (a20, .inl (cI, 16, .inl (nF gw)))]) (sb_runSW (n := 7) (As := [.ref ax, .int (xs ((6 * i) + 1)), .int (xs ((6 * i) + 2)), .int (xs ((6 * i) + 3)), .int (xs ((6 * i) + 4)), .int (xs ((6 * i) + 5)), .ref qo]) (rest := []) ⟨hx, hb, hml, hown, hts⟩ (c_L_feedR l D cI cL cB tS tF hfl ax r1 r2 r3 qi Gg Hh ci nu se op fa iuN v1 lt cp1 f1 (xs ((6 * i) + 1)) (xs ((6 * i) + 2)) (xs ((6 * i) + 3)) (xs ((6 * i) + 4)) (xs ((6 * i) + 5)) qo fo _ e12 hcap1 e14 hl1) k_287 k_285 k_286 k_21 rfl rfl (by decide +kernel) ⟨Nat.le_of_ble_eq_true rfl, Nat.le_of_ble_eq_true rfl⟩ (sb_pSt hG hTh hP hD hS hA [0, 1, 2, 30] (by decide) rfl) rfl rfl hl.1 rfl (lv_room (Nat.le_of_ble_eq_true rfl)) d_law_136 ⟨by show 60 + 3 * i + 1 ≤ 601024; omega, by show 300000 + 2 * (cp1 + cp2 + cp3) + 6 * i + (rsz (lt + 20) cp1) ≤ 7293034; omega⟩) hP hD hS hA [0, 1, 2, 30] [3, 4, 5, 6, 7, 8, 9, 10, 11, 12, 13, 14, 15, 16, 17, 18, 19, 20, 21, 22, 23, 24, 25, 26, 27, 28, 29, 31, 32, 33, 34, 35, 36, 37, 38, 39, 40, 41, 42, 43, 44, 45, 46, 47, 48, 49, 50, 51] rfl rfl (by decide) (by decide) (fun r_4 u H locs hw_3 hP hD hS => ?_)
  obtain ⟨nb_1, nf_2⟩ := u
  try dsimp only at hw_3
  have hP : va_P D vwCl [(r2, .inr (5, [.ref v2, .int (nI lz)])), (v2, .inl (cB, cp2, .inl f2)), (r3, .inr (5, [.ref v3, .int (nI lb)])), (v3, .inl (cB, cp3, .inl f3)), (qi, .inl (cI, 3, .inl (i3 i0 i1 i2))), (Gg, .inr (1, [.ref Gn, .ref Gb, .ref Gt, .int 1, .int gtu, .ref Ga, .ref Gh, .ref Gm])), (Gn, .inl (cI, 3, .inl (i3 n0 n1 n2))), (Gb, .inl (cI, 4, .inl (i4 b0 b1 b2 b3))), (Gt, .inl (cI, 4, .inl (i4 y0 y1 y2 y3))), (Gm, .inl (cI, 4, .inl (i4 m0 m1 m2 m3))), (Ga, .inr (0, [.ref Gk, .int ri])), (Gk, .inl (cI, 60, .inl rk)), (Gh, .inr (3, [.ref Gp, .ref Gq, .long hi, .long lo])), (Gp, .inl (cL, 16, .inr (.inl th))), (Gq, .inl (cL, 16, .inr (.inl tl))), (Hh, .inr (2, [.ref Hn, .ref Hb, .ref Ht, .int 0, .int htu, .ref Hs, .ref Hw, .ref Hp])), (Hn, .inl (cI, 3, .inl (i3 c0 c1 c2))), (Hb, .inl (cI, 16, .inl bl)), (Hs, .inl (cI, 16, .inl sr)), (Hw, .inl (cI, 16, .inl sa)), (Ht, .inl (cI, 4, .inl (i4 z0 z1 z2 z3))), (Hp, .inr (4, [.ref P1, .ref P2, .ref P3, .ref P4, .ref P5])), (P1, .inl (cL, 5, .inr (.inl (l5 k0 k1 k2 k3 k4)))), (P2, .inl (cL, 5, .inr (.inl (l5 u0 u1 u2 u3 u4)))), (P3, .inl (cL, 5, .inr (.inl (l5 s0 s1 s2 s3 s4)))), (P4, .inl (cL, 5, .inr (.inl (l5 p0 p1 p2 p3 p4)))), (P5, .inl (cI, 4, .inl (i4 d0 d1 d2 d3))), (mo, .inr (7, mFs thr a1 a2 a3 (nI lt) (nI lb) (nI lz) ci a4 a5 a6 nu bk se op fa a7 a8 a9 a10 a11 (nI rn) kh kl sh sl a12 a13 a14 a15 a16 a17 a18 a19 a20)), (a1, .inl (cI, 98816, .inl (nF gt))), (a2, .inl (cI, 98816, .inl (nF gx))), (a3, .inl (cI, 98816, .inl (nF gz))), (a4, .inl (cI, 32, .inl (nF gk))), (a5, .inl (cI, 12, .inl (nF gi))), (a6, .inl (cI, 12, .inl (nF gn))), (a7, .inl (cI, 256, .inl (nF sxT))), (a8, .inl (cI, 240, .inl (nF gr))), (a9, .inl (cI, 16, .inl (nF gs))), (a10, .inl (cI, 16, .inl (nF gm))), (a11, .inl (cI, 4, .inl (nF gf))), (a12, .inl (cI, 16, .inl wd)), (a13, .inl (cI, 16, .inl td)), (a14, .inl (cI, 64, .inl (nF gu))), (a15, .inl (cI, 17, .inl (nF ga))), (a16, .inl (cI, 17, .inl (nF gb))), (a17, .inl (cI, 40, .inl (nF gd))), (a18, .inl (cI, 17, .inl (nF gc))), (a19, .inl (cI, 16, .inl (nF gg))), (a20, .inl (cI, 16, .inl (nF gw))), (ax, .inr (6, [.ref r1, .ref r2, .ref r3, .ref qi, .ref Gg, .ref Hh, .ref iuN, .int ci, .long nu, .int se, .int op, .int fa])), (r1, .inr (5, [.ref nb_1, .int (nI (lt + 20))])), (nb_1, .inl (cB, rnew (lt + 20) cp1, .inl (feed5 nf_2 (lt + 20) lt (xs ((6 * i) + 1)) (xs ((6 * i) + 2)) (xs ((6 * i) + 3)) (xs ((6 * i) + 4)) (xs ((6 * i) + 5))))), (qo, .inl (cL, 1, .inr (.inl (vp_updL fo 0 (nI (lt + 20)).toInt64))))] H := hP
  have hD : va_D A [(r2, .inr (5, [.ref v2, .int (nI lz)])), (v2, .inl (cB, cp2, .inl f2)), (r3, .inr (5, [.ref v3, .int (nI lb)])), (v3, .inl (cB, cp3, .inl f3)), (qi, .inl (cI, 3, .inl (i3 i0 i1 i2))), (Gg, .inr (1, [.ref Gn, .ref Gb, .ref Gt, .int 1, .int gtu, .ref Ga, .ref Gh, .ref Gm])), (Gn, .inl (cI, 3, .inl (i3 n0 n1 n2))), (Gb, .inl (cI, 4, .inl (i4 b0 b1 b2 b3))), (Gt, .inl (cI, 4, .inl (i4 y0 y1 y2 y3))), (Gm, .inl (cI, 4, .inl (i4 m0 m1 m2 m3))), (Ga, .inr (0, [.ref Gk, .int ri])), (Gk, .inl (cI, 60, .inl rk)), (Gh, .inr (3, [.ref Gp, .ref Gq, .long hi, .long lo])), (Gp, .inl (cL, 16, .inr (.inl th))), (Gq, .inl (cL, 16, .inr (.inl tl))), (Hh, .inr (2, [.ref Hn, .ref Hb, .ref Ht, .int 0, .int htu, .ref Hs, .ref Hw, .ref Hp])), (Hn, .inl (cI, 3, .inl (i3 c0 c1 c2))), (Hb, .inl (cI, 16, .inl bl)), (Hs, .inl (cI, 16, .inl sr)), (Hw, .inl (cI, 16, .inl sa)), (Ht, .inl (cI, 4, .inl (i4 z0 z1 z2 z3))), (Hp, .inr (4, [.ref P1, .ref P2, .ref P3, .ref P4, .ref P5])), (P1, .inl (cL, 5, .inr (.inl (l5 k0 k1 k2 k3 k4)))), (P2, .inl (cL, 5, .inr (.inl (l5 u0 u1 u2 u3 u4)))), (P3, .inl (cL, 5, .inr (.inl (l5 s0 s1 s2 s3 s4)))), (P4, .inl (cL, 5, .inr (.inl (l5 p0 p1 p2 p3 p4)))), (P5, .inl (cI, 4, .inl (i4 d0 d1 d2 d3))), (mo, .inr (7, mFs thr a1 a2 a3 (nI lt) (nI lb) (nI lz) ci a4 a5 a6 nu bk se op fa a7 a8 a9 a10 a11 (nI rn) kh kl sh sl a12 a13 a14 a15 a16 a17 a18 a19 a20)), (a1, .inl (cI, 98816, .inl (nF gt))), (a2, .inl (cI, 98816, .inl (nF gx))), (a3, .inl (cI, 98816, .inl (nF gz))), (a4, .inl (cI, 32, .inl (nF gk))), (a5, .inl (cI, 12, .inl (nF gi))), (a6, .inl (cI, 12, .inl (nF gn))), (a7, .inl (cI, 256, .inl (nF sxT))), (a8, .inl (cI, 240, .inl (nF gr))), (a9, .inl (cI, 16, .inl (nF gs))), (a10, .inl (cI, 16, .inl (nF gm))), (a11, .inl (cI, 4, .inl (nF gf))), (a12, .inl (cI, 16, .inl wd)), (a13, .inl (cI, 16, .inl td)), (a14, .inl (cI, 64, .inl (nF gu))), (a15, .inl (cI, 17, .inl (nF ga))), (a16, .inl (cI, 17, .inl (nF gb))), (a17, .inl (cI, 40, .inl (nF gd))), (a18, .inl (cI, 17, .inl (nF gc))), (a19, .inl (cI, 16, .inl (nF gg))), (a20, .inl (cI, 16, .inl (nF gw))), (ax, .inr (6, [.ref r1, .ref r2, .ref r3, .ref qi, .ref Gg, .ref Hh, .ref iuN, .int ci, .long nu, .int se, .int op, .int fa])), (r1, .inr (5, [.ref nb_1, .int (nI (lt + 20))])), (nb_1, .inl (cB, rnew (lt + 20) cp1, .inl (feed5 nf_2 (lt + 20) lt (xs ((6 * i) + 1)) (xs ((6 * i) + 2)) (xs ((6 * i) + 3)) (xs ((6 * i) + 4)) (xs ((6 * i) + 5))))), (qo, .inl (cL, 1, .inr (.inl (vp_updL fo 0 (nI (lt + 20)).toInt64))))] := hD
  obtain ⟨rfl, hw_3⟩ := hw_3
  refine W.widen (k := 60 + 3 * i + 1) (n := 300000 + 2 * (cp1 + cp2 + cp3) + 6 * i + rsz (lt + 20) cp1) (by omega) (by omega) ?_
  refine lv_istore (lv' := [(5, .int 0), (4, .int (nI (6 * i))), (3, .ref qo), (2, .ref mo), (1, .ref ax), (0, .ref b)]) hx hb d_law_139 hl (by decide) rfl (fun ls hl => ?_)
  refine lv_aload_n hx hb d_law_141 rfl (lv_at hl 3 rfl) ?_
  refine lv_aload_n hx hb d_law_142 rfl (lv_at hl 5 rfl) ?_
  refine lv_iload hx hb d_law_143 (lv_at hl 1 rfl) ?_
  refine lv_iconst (v := 1) hx hb d_law_145 (by decide) ?_
  refine lv_iadd hx hb d_law_146 ?_
  refine sb_topn ((6 * i) + 1) (nI_add (6 * i) 1) ?_
  refine sb_xld hx hb hX hbl hbA hS (n := (6 * i) + 1) rfl (by omega) (by omega) d_law_147 ?_
  refine lv_aload_n hx hb d_law_148 rfl (lv_at hl 5 rfl) ?_
  refine lv_iload hx hb d_law_149 (lv_at hl 1 rfl) ?_
  refine lv_iconst (v := 2) hx hb d_law_151 (by decide) ?_
  refine lv_iadd hx hb d_law_152 ?_
  refine sb_topn ((6 * i) + 2) (nI_add (6 * i) 2) ?_
  refine sb_xld hx hb hX hbl hbA hS (n := (6 * i) + 2) rfl (by omega) (by omega) d_law_153 ?_
  refine lv_aload_n hx hb d_law_154 rfl (lv_at hl 5 rfl) ?_
  refine lv_iload hx hb d_law_155 (lv_at hl 1 rfl) ?_
  refine lv_iconst (v := 3) hx hb d_law_157 (by decide) ?_
  refine lv_iadd hx hb d_law_158 ?_
  refine sb_topn ((6 * i) + 3) (nI_add (6 * i) 3) ?_
  refine sb_xld hx hb hX hbl hbA hS (n := (6 * i) + 3) rfl (by omega) (by omega) d_law_159 ?_
  refine lv_aload_n hx hb d_law_160 rfl (lv_at hl 5 rfl) ?_
  refine lv_iload hx hb d_law_161 (lv_at hl 1 rfl) ?_
  refine lv_iconst (v := 4) hx hb d_law_163 (by decide) ?_
  refine lv_iadd hx hb d_law_164 ?_
  refine sb_topn ((6 * i) + 4) (nI_add (6 * i) 4) ?_
  refine sb_xld hx hb hX hbl hbA hS (n := (6 * i) + 4) rfl (by omega) (by omega) d_law_165 ?_
  refine lv_aload_n hx hb d_law_166 rfl (lv_at hl 5 rfl) ?_
  refine lv_iload hx hb d_law_167 (lv_at hl 1 rfl) ?_
  refine lv_iconst (v := 5) hx hb d_law_169 (by decide) ?_
  refine lv_iadd hx hb d_law_170 ?_
  refine sb_topn ((6 * i) + 5) (nI_add (6 * i) 5) ?_
  refine sb_xld hx hb hX hbl hbA hS (n := (6 * i) + 5) rfl (by omega) (by omega) d_law_171 ?_
  refine sb_calli (wr := [(r2, .inr (5, [.ref v2, .int (nI lz)])), (v2, .inl (cB, cp2, .inl f2)), (r3, .inr (5, [.ref v3, .int (nI lb)])), (v3, .inl (cB, cp3, .inl f3)), (qi, .inl (cI, 3, .inl (i3 i0 i1 i2))), (Gg, .inr (1, [.ref Gn, .ref Gb, .ref Gt, .int 1, .int gtu, .ref Ga, .ref Gh, .ref Gm])), (Gn, .inl (cI, 3, .inl (i3 n0 n1 n2))), (Gb, .inl (cI, 4, .inl (i4 b0 b1 b2 b3))), (Gt, .inl (cI, 4, .inl (i4 y0 y1 y2 y3))), (Gm, .inl (cI, 4, .inl (i4 m0 m1 m2 m3))), (Ga, .inr (0, [.ref Gk, .int ri])), (Gk, .inl (cI, 60, .inl rk)), (Gh, .inr (3, [.ref Gp, .ref Gq, .long hi, .long lo])), (Gp, .inl (cL, 16, .inr (.inl th))), (Gq, .inl (cL, 16, .inr (.inl tl))), (Hh, .inr (2, [.ref Hn, .ref Hb, .ref Ht, .int 0, .int htu, .ref Hs, .ref Hw, .ref Hp])), (Hn, .inl (cI, 3, .inl (i3 c0 c1 c2))), (Hb, .inl (cI, 16, .inl bl)), (Hs, .inl (cI, 16, .inl sr)), (Hw, .inl (cI, 16, .inl sa)), (Ht, .inl (cI, 4, .inl (i4 z0 z1 z2 z3))), (Hp, .inr (4, [.ref P1, .ref P2, .ref P3, .ref P4, .ref P5])), (P1, .inl (cL, 5, .inr (.inl (l5 k0 k1 k2 k3 k4)))), (P2, .inl (cL, 5, .inr (.inl (l5 u0 u1 u2 u3 u4)))), (P3, .inl (cL, 5, .inr (.inl (l5 s0 s1 s2 s3 s4)))), (P4, .inl (cL, 5, .inr (.inl (l5 p0 p1 p2 p3 p4)))), (P5, .inl (cI, 4, .inl (i4 d0 d1 d2 d3))), (a2, .inl (cI, 98816, .inl (nF gx))), (a3, .inl (cI, 98816, .inl (nF gz))), (a4, .inl (cI, 32, .inl (nF gk))), (a5, .inl (cI, 12, .inl (nF gi))), (a6, .inl (cI, 12, .inl (nF gn))), (a7, .inl (cI, 256, .inl (nF sxT))), (a8, .inl (cI, 240, .inl (nF gr))), (a9, .inl (cI, 16, .inl (nF gs))), (a10, .inl (cI, 16, .inl (nF gm))), (a11, .inl (cI, 4, .inl (nF gf))), (a12, .inl (cI, 16, .inl wd)), (a13, .inl (cI, 16, .inl td)), (a14, .inl (cI, 64, .inl (nF gu))), (a15, .inl (cI, 17, .inl (nF ga))), (a16, .inl (cI, 17, .inl (nF gb))), (a17, .inl (cI, 40, .inl (nF gd))), (a18, .inl (cI, 17, .inl (nF gc))), (a19, .inl (cI, 16, .inl (nF gg))), (a20, .inl (cI, 16, .inl (nF gw))), (ax, .inr (6, [.ref r1, .ref r2, .ref r3, .ref qi, .ref Gg, .ref Hh, .ref iuN, .int ci, .long nu, .int se, .int op, .int fa])), (r1, .inr (5, [.ref nb_1, .int (nI (lt + 20))])), (nb_1, .inl (cB, rnew (lt + 20) cp1, .inl (feed5 nf_2 (lt + 20) lt (xs ((6 * i) + 1)) (xs ((6 * i) + 2)) (xs ((6 * i) + 3)) (xs ((6 * i) + 4)) (xs ((6 * i) + 5))))), (qo, .inl (cL, 1, .inr (.inl (vp_updL fo 0 (nI (lt + 20)).toInt64))))]) (va_runV (As := [.int (xs ((6 * i) + 1)), .int (xs ((6 * i) + 2)), .int (xs ((6 * i) + 3)), .int (xs ((6 * i) + 4)), .int (xs ((6 * i) + 5))]) (rest := []) ⟨hx, hb, hml, hown, hts⟩ (c_M_feed l D cI cL cB tS tF mo a1 a2 a3 a4 a5 a6 a7 a8 a9 a10 a11 a12 a13 a14 a15 a16 a17 a18 a19 a20 thr ci bk se op fa lt lb lz rn nu kh kl sh sl gt (xs ((6 * i) + 1)) (xs ((6 * i) + 2)) (xs ((6 * i) + 3)) (xs ((6 * i) + 4)) (xs ((6 * i) + 5)) _ hl1) (cwV 5 hts (sb_gV k_807 k_808 k_809 k_30 k_810) rfl rfl rfl (by decide +kernel) ⟨Nat.le_of_ble_eq_true rfl, Nat.le_of_ble_eq_true rfl⟩) (sb_pV hG hP hD hS hA [27, 28] (by decide) rfl (ci := 7) (q0 := 27) rfl rfl) rfl rfl hl.1 rfl (lv_room (Nat.le_of_ble_eq_true rfl)) d_law_172 ⟨by show 60 + 3 * i + 1 + 0 ≤ 601024; omega, by show 300000 + 2 * (cp1 + cp2 + cp3) + 6 * i + rsz (lt + 20) cp1 + 0 ≤ 7293034; omega⟩) hP hD hS hA [27, 28] [0, 1, 2, 3, 4, 5, 6, 7, 8, 9, 10, 11, 12, 13, 14, 15, 16, 17, 18, 19, 20, 21, 22, 23, 24, 25, 26, 29, 30, 31, 32, 33, 34, 35, 36, 37, 38, 39, 40, 41, 42, 43, 44, 45, 46, 47, 48, 49, 50, 51] rfl rfl (by decide) (by decide) (fun r_6 u H locs hw_5 hP hD hS => ?_)
  have hP : va_P D vwCl [(r2, .inr (5, [.ref v2, .int (nI lz)])), (v2, .inl (cB, cp2, .inl f2)), (r3, .inr (5, [.ref v3, .int (nI lb)])), (v3, .inl (cB, cp3, .inl f3)), (qi, .inl (cI, 3, .inl (i3 i0 i1 i2))), (Gg, .inr (1, [.ref Gn, .ref Gb, .ref Gt, .int 1, .int gtu, .ref Ga, .ref Gh, .ref Gm])), (Gn, .inl (cI, 3, .inl (i3 n0 n1 n2))), (Gb, .inl (cI, 4, .inl (i4 b0 b1 b2 b3))), (Gt, .inl (cI, 4, .inl (i4 y0 y1 y2 y3))), (Gm, .inl (cI, 4, .inl (i4 m0 m1 m2 m3))), (Ga, .inr (0, [.ref Gk, .int ri])), (Gk, .inl (cI, 60, .inl rk)), (Gh, .inr (3, [.ref Gp, .ref Gq, .long hi, .long lo])), (Gp, .inl (cL, 16, .inr (.inl th))), (Gq, .inl (cL, 16, .inr (.inl tl))), (Hh, .inr (2, [.ref Hn, .ref Hb, .ref Ht, .int 0, .int htu, .ref Hs, .ref Hw, .ref Hp])), (Hn, .inl (cI, 3, .inl (i3 c0 c1 c2))), (Hb, .inl (cI, 16, .inl bl)), (Hs, .inl (cI, 16, .inl sr)), (Hw, .inl (cI, 16, .inl sa)), (Ht, .inl (cI, 4, .inl (i4 z0 z1 z2 z3))), (Hp, .inr (4, [.ref P1, .ref P2, .ref P3, .ref P4, .ref P5])), (P1, .inl (cL, 5, .inr (.inl (l5 k0 k1 k2 k3 k4)))), (P2, .inl (cL, 5, .inr (.inl (l5 u0 u1 u2 u3 u4)))), (P3, .inl (cL, 5, .inr (.inl (l5 s0 s1 s2 s3 s4)))), (P4, .inl (cL, 5, .inr (.inl (l5 p0 p1 p2 p3 p4)))), (P5, .inl (cI, 4, .inl (i4 d0 d1 d2 d3))), (a2, .inl (cI, 98816, .inl (nF gx))), (a3, .inl (cI, 98816, .inl (nF gz))), (a4, .inl (cI, 32, .inl (nF gk))), (a5, .inl (cI, 12, .inl (nF gi))), (a6, .inl (cI, 12, .inl (nF gn))), (a7, .inl (cI, 256, .inl (nF sxT))), (a8, .inl (cI, 240, .inl (nF gr))), (a9, .inl (cI, 16, .inl (nF gs))), (a10, .inl (cI, 16, .inl (nF gm))), (a11, .inl (cI, 4, .inl (nF gf))), (a12, .inl (cI, 16, .inl wd)), (a13, .inl (cI, 16, .inl td)), (a14, .inl (cI, 64, .inl (nF gu))), (a15, .inl (cI, 17, .inl (nF ga))), (a16, .inl (cI, 17, .inl (nF gb))), (a17, .inl (cI, 40, .inl (nF gd))), (a18, .inl (cI, 17, .inl (nF gc))), (a19, .inl (cI, 16, .inl (nF gg))), (a20, .inl (cI, 16, .inl (nF gw))), (ax, .inr (6, [.ref r1, .ref r2, .ref r3, .ref qi, .ref Gg, .ref Hh, .ref iuN, .int ci, .long nu, .int se, .int op, .int fa])), (r1, .inr (5, [.ref nb_1, .int (nI (lt + 20))])), (nb_1, .inl (cB, rnew (lt + 20) cp1, .inl (feed5 nf_2 (lt + 20) lt (xs ((6 * i) + 1)) (xs ((6 * i) + 2)) (xs ((6 * i) + 3)) (xs ((6 * i) + 4)) (xs ((6 * i) + 5))))), (qo, .inl (cL, 1, .inr (.inl (vp_updL fo 0 (nI (lt + 20)).toInt64)))), (mo, .inr (7, mFs 0 a1 a2 a3 (nI (lt + 20)) (nI lb) (nI lz) ci a4 a5 a6 nu bk se op fa a7 a8 a9 a10 a11 (nI rn) kh kl sh sl a12 a13 a14 a15 a16 a17 a18 a19 a20)), (a1, .inl (cI, 98816, .inl (nF (iter (fdS (xs ((6 * i) + 1)) (xs ((6 * i) + 2)) (xs ((6 * i) + 3)) (xs ((6 * i) + 4)) (xs ((6 * i) + 5)) lt) 20 gt))))] H := hP
  have hD : va_D A [(r2, .inr (5, [.ref v2, .int (nI lz)])), (v2, .inl (cB, cp2, .inl f2)), (r3, .inr (5, [.ref v3, .int (nI lb)])), (v3, .inl (cB, cp3, .inl f3)), (qi, .inl (cI, 3, .inl (i3 i0 i1 i2))), (Gg, .inr (1, [.ref Gn, .ref Gb, .ref Gt, .int 1, .int gtu, .ref Ga, .ref Gh, .ref Gm])), (Gn, .inl (cI, 3, .inl (i3 n0 n1 n2))), (Gb, .inl (cI, 4, .inl (i4 b0 b1 b2 b3))), (Gt, .inl (cI, 4, .inl (i4 y0 y1 y2 y3))), (Gm, .inl (cI, 4, .inl (i4 m0 m1 m2 m3))), (Ga, .inr (0, [.ref Gk, .int ri])), (Gk, .inl (cI, 60, .inl rk)), (Gh, .inr (3, [.ref Gp, .ref Gq, .long hi, .long lo])), (Gp, .inl (cL, 16, .inr (.inl th))), (Gq, .inl (cL, 16, .inr (.inl tl))), (Hh, .inr (2, [.ref Hn, .ref Hb, .ref Ht, .int 0, .int htu, .ref Hs, .ref Hw, .ref Hp])), (Hn, .inl (cI, 3, .inl (i3 c0 c1 c2))), (Hb, .inl (cI, 16, .inl bl)), (Hs, .inl (cI, 16, .inl sr)), (Hw, .inl (cI, 16, .inl sa)), (Ht, .inl (cI, 4, .inl (i4 z0 z1 z2 z3))), (Hp, .inr (4, [.ref P1, .ref P2, .ref P3, .ref P4, .ref P5])), (P1, .inl (cL, 5, .inr (.inl (l5 k0 k1 k2 k3 k4)))), (P2, .inl (cL, 5, .inr (.inl (l5 u0 u1 u2 u3 u4)))), (P3, .inl (cL, 5, .inr (.inl (l5 s0 s1 s2 s3 s4)))), (P4, .inl (cL, 5, .inr (.inl (l5 p0 p1 p2 p3 p4)))), (P5, .inl (cI, 4, .inl (i4 d0 d1 d2 d3))), (a2, .inl (cI, 98816, .inl (nF gx))), (a3, .inl (cI, 98816, .inl (nF gz))), (a4, .inl (cI, 32, .inl (nF gk))), (a5, .inl (cI, 12, .inl (nF gi))), (a6, .inl (cI, 12, .inl (nF gn))), (a7, .inl (cI, 256, .inl (nF sxT))), (a8, .inl (cI, 240, .inl (nF gr))), (a9, .inl (cI, 16, .inl (nF gs))), (a10, .inl (cI, 16, .inl (nF gm))), (a11, .inl (cI, 4, .inl (nF gf))), (a12, .inl (cI, 16, .inl wd)), (a13, .inl (cI, 16, .inl td)), (a14, .inl (cI, 64, .inl (nF gu))), (a15, .inl (cI, 17, .inl (nF ga))), (a16, .inl (cI, 17, .inl (nF gb))), (a17, .inl (cI, 40, .inl (nF gd))), (a18, .inl (cI, 17, .inl (nF gc))), (a19, .inl (cI, 16, .inl (nF gg))), (a20, .inl (cI, 16, .inl (nF gw))), (ax, .inr (6, [.ref r1, .ref r2, .ref r3, .ref qi, .ref Gg, .ref Hh, .ref iuN, .int ci, .long nu, .int se, .int op, .int fa])), (r1, .inr (5, [.ref nb_1, .int (nI (lt + 20))])), (nb_1, .inl (cB, rnew (lt + 20) cp1, .inl (feed5 nf_2 (lt + 20) lt (xs ((6 * i) + 1)) (xs ((6 * i) + 2)) (xs ((6 * i) + 3)) (xs ((6 * i) + 4)) (xs ((6 * i) + 5))))), (qo, .inl (cL, 1, .inr (.inl (vp_updL fo 0 (nI (lt + 20)).toInt64)))), (mo, .inr (7, mFs 0 a1 a2 a3 (nI (lt + 20)) (nI lb) (nI lz) ci a4 a5 a6 nu bk se op fa a7 a8 a9 a10 a11 (nI rn) kh kl sh sl a12 a13 a14 a15 a16 a17 a18 a19 a20)), (a1, .inl (cI, 98816, .inl (nF (iter (fdS (xs ((6 * i) + 1)) (xs ((6 * i) + 2)) (xs ((6 * i) + 3)) (xs ((6 * i) + 4)) (xs ((6 * i) + 5)) lt) 20 gt))))] := hD
  subst hw_5
  refine lv_topi (fun x_7 ex_7 => ?_)
  refine lv_istore (lv' := [(6, .int x_7), (5, .int 0), (4, .int (nI (6 * i))), (3, .ref qo), (2, .ref mo), (1, .ref ax), (0, .ref b)]) hx hb d_law_175 hl (by decide) rfl (fun ls hl => ?_)
  refine lv_aload_n hx hb d_law_177 rfl (lv_at hl 4 rfl) ?_
  refine vp_callSi (va_runV (As := []) (rest := []) ⟨hx, hb, hml, hown, hts⟩ (c_M_thrown l D cI cL cB tS tF mo a1 a2 a3 a4 a5 a6 a7 a8 a9 a10 a11 a12 a13 a14 a15 a16 a17 a18 a19 a20 0 ci bk se op fa (lt + 20) lb lz rn nu kh kl sh sl ) (cwV 0 hts (sb_gV k_803 k_804 k_805 k_30 k_806) rfl rfl rfl (by decide +kernel) ⟨Nat.le_of_ble_eq_true rfl, Nat.le_of_ble_eq_true rfl⟩) (sb_rV hG hP hS [50] rfl (ci := 7) (q0 := 50) rfl rfl) rfl rfl hl.1 rfl (lv_room (Nat.le_of_ble_eq_true rfl)) d_law_178 ⟨by show 60 + 3 * i + 1 + 0 ≤ 601024; omega, by show 300000 + 2 * (cp1 + cp2 + cp3) + 6 * i + rsz (lt + 20) cp1 + 0 ≤ 7293034; omega⟩).run (fun r_8 er_8 => ?_)
  subst er_8
  refine lv_iload hx hb d_law_181 (lv_at hl 1 rfl) ?_
  refine lv_icmp_eq (tgt := 188) hx hb d_law_183 (by decide) (fun c_9 => ?_) (fun c_9 => absurd rfl c_9)
  refine lv_iload hx hb d_law_188 (lv_at hl 1 rfl) ?_
  refine lv_if_ne (tgt := 205) hx hb d_law_190 (by decide) (fun c_10 => absurd rfl c_10) (fun c_10 => ?_)
  refine lv_aload_n hx hb d_law_193 rfl (lv_at hl 3 rfl) ?_
  refine lv_iconst (v := 0) hx hb d_law_194 (by decide) ?_
  refine sb_lld hx hb hG.1 hP 49 rfl 0 rfl (by omega) (by omega) d_law_195 ?_
  refine lv_iload hx hb d_law_196 (lv_at hl 0 rfl) ?_
  refine lv_i2l (v := x_7.toInt64) hx hb d_law_198 rfl ?_
  refine W.lcmp hx hb d_law_199 ?_
  refine lv_if_eq (tgt := 205) hx hb d_law_200 (by decide) (fun c_11 => ?_) (fun c_11 => absurd (by rw [pk_uLs, ex_7]; exact (lg0 _ _).2 rfl) c_11)
  refine lv_goto (tgt := 643) hx hb d_law_205 (by decide) ?_
  refine W.widen (k := 60 + 3 * (i + 1)) (n := 300000 + 2 * ((rnew (lt + 20) cp1) + cp2 + cp3) + 6 * (i + 1)) (by omega) (by omega) ?_
  exact K nb_1 v2 v3 (lt + 20) lb lz (rnew (lt + 20) cp1) cp2 cp3 (feed5 nf_2 (lt + 20) lt (xs ((6 * i) + 1)) (xs ((6 * i) + 2)) (xs ((6 * i) + 3)) (xs ((6 * i) + 4)) (xs ((6 * i) + 5))) f2 f3 i0 i1 i2 (.ref iuN) ci nu se op fa gtu n0 n1 n2 b0 b1 b2 b3 y0 y1 y2 y3 m0 m1 m2 m3 ri rk th tl hi lo htu c0 c1 c2 bl sr sa z0 z1 z2 z3 k0 k1 k2 k3 k4 u0 u1 u2 u3 u4 s0 s1 s2 s3 s4 p0 p1 p2 p3 p4 d0 d1 d2 d3 0 bk rn kh kl sh sl (iter (fdS (xs ((6 * i) + 1)) (xs ((6 * i) + 2)) (xs ((6 * i) + 3)) (xs ((6 * i) + 4)) (xs ((6 * i) + 5)) lt) 20 gt) gx gz gk gi gn gr gs gm gf wd td gu ga gb gd gc gg gw (vp_updL fo 0 (nI (lt + 20)).toInt64) (⟨by omega, rnew_le _ _, Rw.cap (by omega) e13, feed_fit hw_3.2, feed_RB e15 hw_3.1 e12 (by omega) _ _ _ _ _, fdS_B _ _ _ _ _ _ 20 _ e16⟩) hR2.mono hR3.mono hI hB hK0 hAe hCh hU _ _ ls (hP.sub [46, 47, 48, 0, 1, 2, 3, 4, 5, 6, 7, 8, 9, 10, 11, 12, 13, 14, 15, 16, 17, 18, 19, 20, 21, 22, 23, 24, 25, 26, 49, 50, 51, 27, 28, 29, 30, 31, 32, 33, 34, 35, 36, 37, 38, 39, 40, 41, 42, 43, 44, 45] rfl) (hD.sub [46, 47, 48, 0, 1, 2, 3, 4, 5, 6, 7, 8, 9, 10, 11, 12, 13, 14, 15, 16, 17, 18, 19, 20, 21, 22, 23, 24, 25, 26, 49, 50, 51, 27, 28, 29, 30, 31, 32, 33, 34, 35, 36, 37, 38, 39, 40, 41, 42, 43, 44, 45] (by decide) rfl) hS (lv_sub hl [2, 3, 4, 5, 6] rfl)
