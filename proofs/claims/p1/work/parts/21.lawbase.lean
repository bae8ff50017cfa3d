theorem nd_L_law_0 : decode code 0 = .ok (.new 8, 3) := by decide +kernel
theorem nd_L_law_3 : decode code 3 = .ok (.dup, 1) := by decide +kernel
theorem nd_L_law_4 : decode code 4 = .ok (.invokespecial 57, 3) := by decide +kernel
theorem nd_L_law_7 : decode code 7 = .ok (.astore_n 1, 1) := by decide +kernel
theorem nd_L_law_8 : decode code 8 = .ok (.new 58, 3) := by decide +kernel
theorem nd_L_law_11 : decode code 11 = .ok (.dup, 1) := by decide +kernel
theorem nd_L_law_12 : decode code 12 = .ok (.invokespecial 60, 3) := by decide +kernel
theorem nd_L_law_15 : decode code 15 = .ok (.astore_n 2, 1) := by decide +kernel
theorem nd_L_law_16 : decode code 16 = .ok (.iconst 1, 1) := by decide +kernel
theorem nd_L_law_17 : decode code 17 = .ok (.newarray .long, 2) := by decide +kernel
theorem nd_L_law_19 : decode code 19 = .ok (.astore_n 3, 1) := by decide +kernel
theorem nd_L_law_20 : decode code 20 = .ok (.iconst 0, 1) := by decide +kernel
theorem nd_L_law_21 : decode code 21 = .ok (.istore 4, 2) := by decide +kernel
theorem nd_L_law_23 : decode code 23 = .ok (.iload 4, 2) := by decide +kernel
theorem nd_L_law_25 : decode code 25 = .ok (.aload_n 0, 1) := by decide +kernel
theorem nd_L_law_26 : decode code 26 = .ok (.arraylength, 1) := by decide +kernel
theorem nd_L_law_27 : decode code 27 = .ok (.iconst 4, 1) := by decide +kernel
theorem nd_L_law_28 : decode code 28 = .ok (.isub, 1) := by decide +kernel
theorem nd_L_law_29 : decode code 29 = .ok (.if_icmp .gt 935, 3) := by decide +kernel
theorem nd_L_law_32 : decode code 32 = .ok (.aload_n 0, 1) := by decide +kernel
theorem nd_L_law_33 : decode code 33 = .ok (.iload 4, 2) := by decide +kernel
theorem nd_L_law_35 : decode code 35 = .ok (.iaload, 1) := by decide +kernel
theorem nd_L_law_36 : decode code 36 = .ok (.bipush 31, 2) := by decide +kernel
theorem nd_L_law_38 : decode code 38 = .ok (.iand, 1) := by decide +kernel
theorem nd_L_law_39 : decode code 39 = .ok (.tableswitch 919 0 17 #[85, 141, 177, 233, 289, 333, 389, 449, 529, 597, 657, 713, 769, 794, 831, 868, 893, 906], 85) := by decide +kernel
theorem nd_L_law_124 : decode code 124 = .ok (.aload_n 1, 1) := by decide +kernel
theorem nd_L_law_125 : decode code 125 = .ok (.aload_n 0, 1) := by decide +kernel
theorem nd_L_law_126 : decode code 126 = .ok (.iload 4, 2) := by decide +kernel
theorem nd_L_law_128 : decode code 128 = .ok (.iconst 1, 1) := by decide +kernel
theorem nd_L_law_129 : decode code 129 = .ok (.iadd, 1) := by decide +kernel
theorem nd_L_law_130 : decode code 130 = .ok (.iaload, 1) := by decide +kernel
theorem nd_L_law_131 : decode code 131 = .ok (.aload_n 3, 1) := by decide +kernel
theorem nd_L_law_132 : decode code 132 = .ok (.invokestatic 61, 3) := by decide +kernel
theorem nd_L_law_135 : decode code 135 = .ok (.istore 5, 2) := by decide +kernel
theorem nd_L_law_137 : decode code 137 = .ok (.aload_n 2, 1) := by decide +kernel
theorem nd_L_law_138 : decode code 138 = .ok (.aload_n 0, 1) := by decide +kernel
theorem nd_L_law_139 : decode code 139 = .ok (.iload 4, 2) := by decide +kernel
theorem nd_L_law_141 : decode code 141 = .ok (.iconst 1, 1) := by decide +kernel
theorem nd_L_law_142 : decode code 142 = .ok (.iadd, 1) := by decide +kernel
theorem nd_L_law_143 : decode code 143 = .ok (.iaload, 1) := by decide +kernel
theorem nd_L_law_144 : decode code 144 = .ok (.invokevirtual 66, 3) := by decide +kernel
theorem nd_L_law_147 : decode code 147 = .ok (.istore 6, 2) := by decide +kernel
theorem nd_L_law_149 : decode code 149 = .ok (.aload_n 2, 1) := by decide +kernel
theorem nd_L_law_150 : decode code 150 = .ok (.invokevirtual 67, 3) := by decide +kernel
theorem nd_L_law_153 : decode code 153 = .ok (.iload 5, 2) := by decide +kernel
theorem nd_L_law_155 : decode code 155 = .ok (.if_icmp .eq 5, 3) := by decide +kernel
theorem nd_L_law_158 : decode code 158 = .ok (.iconst 0, 1) := by decide +kernel
theorem nd_L_law_159 : decode code 159 = .ok (.ireturn, 1) := by decide +kernel
theorem nd_L_law_160 : decode code 160 = .ok (.iload 5, 2) := by decide +kernel
theorem nd_L_law_162 : decode code 162 = .ok (.ifCond .ne 15, 3) := by decide +kernel
theorem nd_L_law_165 : decode code 165 = .ok (.aload_n 3, 1) := by decide +kernel
theorem nd_L_law_166 : decode code 166 = .ok (.iconst 0, 1) := by decide +kernel
theorem nd_L_law_167 : decode code 167 = .ok (.laload, 1) := by decide +kernel
theorem nd_L_law_168 : decode code 168 = .ok (.iload 6, 2) := by decide +kernel
theorem nd_L_law_170 : decode code 170 = .ok (.i2l, 1) := by decide +kernel
theorem nd_L_law_171 : decode code 171 = .ok (.lcmp, 1) := by decide +kernel
theorem nd_L_law_172 : decode code 172 = .ok (.ifCond .eq 5, 3) := by decide +kernel
theorem nd_L_law_175 : decode code 175 = .ok (.iconst 0, 1) := by decide +kernel
theorem nd_L_law_176 : decode code 176 = .ok (.ireturn, 1) := by decide +kernel
theorem nd_L_law_177 : decode code 177 = .ok (.goto 781, 3) := by decide +kernel
theorem nd_L_law_180 : decode code 180 = .ok (.aload_n 1, 1) := by decide +kernel
theorem nd_L_law_181 : decode code 181 = .ok (.aload_n 0, 1) := by decide +kernel
theorem nd_L_law_182 : decode code 182 = .ok (.iload 4, 2) := by decide +kernel
theorem nd_L_law_184 : decode code 184 = .ok (.iconst 1, 1) := by decide +kernel
theorem nd_L_law_185 : decode code 185 = .ok (.iadd, 1) := by decide +kernel
theorem nd_L_law_186 : decode code 186 = .ok (.iaload, 1) := by decide +kernel
theorem nd_L_law_187 : decode code 187 = .ok (.invokestatic 70, 3) := by decide +kernel
theorem nd_L_law_190 : decode code 190 = .ok (.istore 5, 2) := by decide +kernel
theorem nd_L_law_192 : decode code 192 = .ok (.aload_n 2, 1) := by decide +kernel
theorem nd_L_law_193 : decode code 193 = .ok (.aload_n 0, 1) := by decide +kernel
theorem nd_L_law_194 : decode code 194 = .ok (.iload 4, 2) := by decide +kernel
theorem nd_L_law_196 : decode code 196 = .ok (.iconst 1, 1) := by decide +kernel
theorem nd_L_law_197 : decode code 197 = .ok (.iadd, 1) := by decide +kernel
theorem nd_L_law_198 : decode code 198 = .ok (.iaload, 1) := by decide +kernel
theorem nd_L_law_199 : decode code 199 = .ok (.invokevirtual 73, 3) := by decide +kernel
theorem nd_L_law_202 : decode code 202 = .ok (.aload_n 2, 1) := by decide +kernel
theorem nd_L_law_203 : decode code 203 = .ok (.invokevirtual 67, 3) := by decide +kernel
theorem nd_L_law_206 : decode code 206 = .ok (.iload 5, 2) := by decide +kernel
theorem nd_L_law_208 : decode code 208 = .ok (.if_icmp .eq 5, 3) := by decide +kernel
theorem nd_L_law_211 : decode code 211 = .ok (.iconst 0, 1) := by decide +kernel
theorem nd_L_law_212 : decode code 212 = .ok (.ireturn, 1) := by decide +kernel
theorem nd_L_law_213 : decode code 213 = .ok (.goto 745, 3) := by decide +kernel
theorem nd_L_law_216 : decode code 216 = .ok (.aload_n 1, 1) := by decide +kernel
theorem nd_L_law_217 : decode code 217 = .ok (.aload_n 0, 1) := by decide +kernel
theorem nd_L_law_218 : decode code 218 = .ok (.iload 4, 2) := by decide +kernel
theorem nd_L_law_220 : decode code 220 = .ok (.iconst 1, 1) := by decide +kernel
theorem nd_L_law_221 : decode code 221 = .ok (.iadd, 1) := by decide +kernel
theorem nd_L_law_222 : decode code 222 = .ok (.iaload, 1) := by decide +kernel
theorem nd_L_law_223 : decode code 223 = .ok (.aload_n 3, 1) := by decide +kernel
theorem nd_L_law_224 : decode code 224 = .ok (.invokestatic 74, 3) := by decide +kernel
theorem nd_L_law_227 : decode code 227 = .ok (.istore 5, 2) := by decide +kernel
theorem nd_L_law_229 : decode code 229 = .ok (.aload_n 2, 1) := by decide +kernel
theorem nd_L_law_230 : decode code 230 = .ok (.aload_n 0, 1) := by decide +kernel
theorem nd_L_law_231 : decode code 231 = .ok (.iload 4, 2) := by decide +kernel
theorem nd_L_law_233 : decode code 233 = .ok (.iconst 1, 1) := by decide +kernel
theorem nd_L_law_234 : decode code 234 = .ok (.iadd, 1) := by decide +kernel
theorem nd_L_law_235 : decode code 235 = .ok (.iaload, 1) := by decide +kernel
theorem nd_L_law_236 : decode code 236 = .ok (.invokevirtual 76, 3) := by decide +kernel
theorem nd_L_law_239 : decode code 239 = .ok (.istore 6, 2) := by decide +kernel
theorem nd_L_law_241 : decode code 241 = .ok (.aload_n 2, 1) := by decide +kernel
theorem nd_L_law_242 : decode code 242 = .ok (.invokevirtual 67, 3) := by decide +kernel
theorem nd_L_law_245 : decode code 245 = .ok (.iload 5, 2) := by decide +kernel
theorem nd_L_law_247 : decode code 247 = .ok (.if_icmp .eq 5, 3) := by decide +kernel
theorem nd_L_law_250 : decode code 250 = .ok (.iconst 0, 1) := by decide +kernel
theorem nd_L_law_251 : decode code 251 = .ok (.ireturn, 1) := by decide +kernel
theorem nd_L_law_252 : decode code 252 = .ok (.iload 5, 2) := by decide +kernel
theorem nd_L_law_254 : decode code 254 = .ok (.ifCond .ne 15, 3) := by decide +kernel
theorem nd_L_law_257 : decode code 257 = .ok (.aload_n 3, 1) := by decide +kernel
theorem nd_L_law_258 : decode code 258 = .ok (.iconst 0, 1) := by decide +kernel
theorem nd_L_law_259 : decode code 259 = .ok (.laload, 1) := by decide +kernel
theorem nd_L_law_260 : decode code 260 = .ok (.iload 6, 2) := by decide +kernel
theorem nd_L_law_262 : decode code 262 = .ok (.i2l, 1) := by decide +kernel
theorem nd_L_law_263 : decode code 263 = .ok (.lcmp, 1) := by decide +kernel
theorem nd_L_law_264 : decode code 264 = .ok (.ifCond .eq 5, 3) := by decide +kernel
theorem nd_L_law_267 : decode code 267 = .ok (.iconst 0, 1) := by decide +kernel
theorem nd_L_law_268 : decode code 268 = .ok (.ireturn, 1) := by decide +kernel
theorem nd_L_law_269 : decode code 269 = .ok (.goto 689, 3) := by decide +kernel
theorem nd_L_law_272 : decode code 272 = .ok (.aload_n 1, 1) := by decide +kernel
theorem nd_L_law_273 : decode code 273 = .ok (.aload_n 0, 1) := by decide +kernel
theorem nd_L_law_274 : decode code 274 = .ok (.iload 4, 2) := by decide +kernel
theorem nd_L_law_276 : decode code 276 = .ok (.iconst 1, 1) := by decide +kernel
theorem nd_L_law_277 : decode code 277 = .ok (.iadd, 1) := by decide +kernel
theorem nd_L_law_278 : decode code 278 = .ok (.iaload, 1) := by decide +kernel
theorem nd_L_law_279 : decode code 279 = .ok (.aload_n 3, 1) := by decide +kernel
theorem nd_L_law_280 : decode code 280 = .ok (.invokestatic 77, 3) := by decide +kernel
theorem nd_L_law_283 : decode code 283 = .ok (.istore 5, 2) := by decide +kernel
theorem nd_L_law_285 : decode code 285 = .ok (.aload_n 2, 1) := by decide +kernel
theorem nd_L_law_286 : decode code 286 = .ok (.aload_n 0, 1) := by decide +kernel
theorem nd_L_law_287 : decode code 287 = .ok (.iload 4, 2) := by decide +kernel
theorem nd_L_law_289 : decode code 289 = .ok (.iconst 1, 1) := by decide +kernel
theorem nd_L_law_290 : decode code 290 = .ok (.iadd, 1) := by decide +kernel
theorem nd_L_law_291 : decode code 291 = .ok (.iaload, 1) := by decide +kernel
theorem nd_L_law_292 : decode code 292 = .ok (.invokevirtual 79, 3) := by decide +kernel
theorem nd_L_law_295 : decode code 295 = .ok (.istore 6, 2) := by decide +kernel
theorem nd_L_law_297 : decode code 297 = .ok (.aload_n 2, 1) := by decide +kernel
theorem nd_L_law_298 : decode code 298 = .ok (.invokevirtual 67, 3) := by decide +kernel
theorem nd_L_law_301 : decode code 301 = .ok (.iload 5, 2) := by decide +kernel
theorem nd_L_law_303 : decode code 303 = .ok (.if_icmp .eq 5, 3) := by decide +kernel
theorem nd_L_law_306 : decode code 306 = .ok (.iconst 0, 1) := by decide +kernel
theorem nd_L_law_307 : decode code 307 = .ok (.ireturn, 1) := by decide +kernel
theorem nd_L_law_308 : decode code 308 = .ok (.iload 5, 2) := by decide +kernel
theorem nd_L_law_310 : decode code 310 = .ok (.ifCond .ne 15, 3) := by decide +kernel
theorem nd_L_law_313 : decode code 313 = .ok (.aload_n 3, 1) := by decide +kernel
theorem nd_L_law_314 : decode code 314 = .ok (.iconst 0, 1) := by decide +kernel
theorem nd_L_law_315 : decode code 315 = .ok (.laload, 1) := by decide +kernel
theorem nd_L_law_316 : decode code 316 = .ok (.iload 6, 2) := by decide +kernel
theorem nd_L_law_318 : decode code 318 = .ok (.i2l, 1) := by decide +kernel
theorem nd_L_law_319 : decode code 319 = .ok (.lcmp, 1) := by decide +kernel
theorem nd_L_law_320 : decode code 320 = .ok (.ifCond .eq 5, 3) := by decide +kernel
theorem nd_L_law_323 : decode code 323 = .ok (.iconst 0, 1) := by decide +kernel
theorem nd_L_law_324 : decode code 324 = .ok (.ireturn, 1) := by decide +kernel
theorem nd_L_law_325 : decode code 325 = .ok (.goto 633, 3) := by decide +kernel
theorem nd_L_law_328 : decode code 328 = .ok (.aload_n 1, 1) := by decide +kernel
theorem nd_L_law_329 : decode code 329 = .ok (.aload_n 3, 1) := by decide +kernel
theorem nd_L_law_330 : decode code 330 = .ok (.invokestatic 80, 3) := by decide +kernel
theorem nd_L_law_333 : decode code 333 = .ok (.istore 5, 2) := by decide +kernel
theorem nd_L_law_335 : decode code 335 = .ok (.aload_n 2, 1) := by decide +kernel
theorem nd_L_law_336 : decode code 336 = .ok (.invokevirtual 83, 3) := by decide +kernel
theorem nd_L_law_339 : decode code 339 = .ok (.istore 6, 2) := by decide +kernel
theorem nd_L_law_341 : decode code 341 = .ok (.aload_n 2, 1) := by decide +kernel
theorem nd_L_law_342 : decode code 342 = .ok (.invokevirtual 67, 3) := by decide +kernel
theorem nd_L_law_345 : decode code 345 = .ok (.iload 5, 2) := by decide +kernel
theorem nd_L_law_347 : decode code 347 = .ok (.if_icmp .eq 5, 3) := by decide +kernel
theorem nd_L_law_350 : decode code 350 = .ok (.iconst 0, 1) := by decide +kernel
theorem nd_L_law_351 : decode code 351 = .ok (.ireturn, 1) := by decide +kernel
theorem nd_L_law_352 : decode code 352 = .ok (.iload 5, 2) := by decide +kernel
theorem nd_L_law_354 : decode code 354 = .ok (.ifCond .ne 15, 3) := by decide +kernel
theorem nd_L_law_357 : decode code 357 = .ok (.aload_n 3, 1) := by decide +kernel
theorem nd_L_law_358 : decode code 358 = .ok (.iconst 0, 1) := by decide +kernel
theorem nd_L_law_359 : decode code 359 = .ok (.laload, 1) := by decide +kernel
theorem nd_L_law_360 : decode code 360 = .ok (.iload 6, 2) := by decide +kernel
theorem nd_L_law_362 : decode code 362 = .ok (.i2l, 1) := by decide +kernel
theorem nd_L_law_363 : decode code 363 = .ok (.lcmp, 1) := by decide +kernel
theorem nd_L_law_364 : decode code 364 = .ok (.ifCond .eq 5, 3) := by decide +kernel
theorem nd_L_law_367 : decode code 367 = .ok (.iconst 0, 1) := by decide +kernel
theorem nd_L_law_368 : decode code 368 = .ok (.ireturn, 1) := by decide +kernel
theorem nd_L_law_369 : decode code 369 = .ok (.goto 589, 3) := by decide +kernel
theorem nd_L_law_372 : decode code 372 = .ok (.aload_n 1, 1) := by decide +kernel
theorem nd_L_law_373 : decode code 373 = .ok (.aload_n 0, 1) := by decide +kernel
theorem nd_L_law_374 : decode code 374 = .ok (.iload 4, 2) := by decide +kernel
theorem nd_L_law_376 : decode code 376 = .ok (.iconst 1, 1) := by decide +kernel
theorem nd_L_law_377 : decode code 377 = .ok (.iadd, 1) := by decide +kernel
theorem nd_L_law_378 : decode code 378 = .ok (.iaload, 1) := by decide +kernel
theorem nd_L_law_379 : decode code 379 = .ok (.aload_n 3, 1) := by decide +kernel
theorem nd_L_law_380 : decode code 380 = .ok (.invokestatic 84, 3) := by decide +kernel
theorem nd_L_law_383 : decode code 383 = .ok (.istore 5, 2) := by decide +kernel
theorem nd_L_law_385 : decode code 385 = .ok (.aload_n 2, 1) := by decide +kernel
theorem nd_L_law_386 : decode code 386 = .ok (.aload_n 0, 1) := by decide +kernel
theorem nd_L_law_387 : decode code 387 = .ok (.iload 4, 2) := by decide +kernel
theorem nd_L_law_389 : decode code 389 = .ok (.iconst 1, 1) := by decide +kernel
theorem nd_L_law_390 : decode code 390 = .ok (.iadd, 1) := by decide +kernel
theorem nd_L_law_391 : decode code 391 = .ok (.iaload, 1) := by decide +kernel
theorem nd_L_law_392 : decode code 392 = .ok (.invokevirtual 86, 3) := by decide +kernel
theorem nd_L_law_395 : decode code 395 = .ok (.istore 6, 2) := by decide +kernel
theorem nd_L_law_397 : decode code 397 = .ok (.aload_n 2, 1) := by decide +kernel
theorem nd_L_law_398 : decode code 398 = .ok (.invokevirtual 67, 3) := by decide +kernel
theorem nd_L_law_401 : decode code 401 = .ok (.iload 5, 2) := by decide +kernel
theorem nd_L_law_403 : decode code 403 = .ok (.if_icmp .eq 5, 3) := by decide +kernel
theorem nd_L_law_406 : decode code 406 = .ok (.iconst 0, 1) := by decide +kernel
theorem nd_L_law_407 : decode code 407 = .ok (.ireturn, 1) := by decide +kernel
theorem nd_L_law_408 : decode code 408 = .ok (.iload 5, 2) := by decide +kernel
theorem nd_L_law_410 : decode code 410 = .ok (.ifCond .ne 15, 3) := by decide +kernel
theorem nd_L_law_413 : decode code 413 = .ok (.aload_n 3, 1) := by decide +kernel
theorem nd_L_law_414 : decode code 414 = .ok (.iconst 0, 1) := by decide +kernel
theorem nd_L_law_415 : decode code 415 = .ok (.laload, 1) := by decide +kernel
theorem nd_L_law_416 : decode code 416 = .ok (.iload 6, 2) := by decide +kernel
theorem nd_L_law_418 : decode code 418 = .ok (.i2l, 1) := by decide +kernel
theorem nd_L_law_419 : decode code 419 = .ok (.lcmp, 1) := by decide +kernel
theorem nd_L_law_420 : decode code 420 = .ok (.ifCond .eq 5, 3) := by decide +kernel
theorem nd_L_law_423 : decode code 423 = .ok (.iconst 0, 1) := by decide +kernel
theorem nd_L_law_424 : decode code 424 = .ok (.ireturn, 1) := by decide +kernel
theorem nd_L_law_425 : decode code 425 = .ok (.goto 533, 3) := by decide +kernel
theorem nd_L_law_428 : decode code 428 = .ok (.aload_n 1, 1) := by decide +kernel
theorem nd_L_law_429 : decode code 429 = .ok (.aload_n 0, 1) := by decide +kernel
theorem nd_L_law_430 : decode code 430 = .ok (.iload 4, 2) := by decide +kernel
theorem nd_L_law_432 : decode code 432 = .ok (.iconst 1, 1) := by decide +kernel
theorem nd_L_law_433 : decode code 433 = .ok (.iadd, 1) := by decide +kernel
theorem nd_L_law_434 : decode code 434 = .ok (.iaload, 1) := by decide +kernel
theorem nd_L_law_435 : decode code 435 = .ok (.aload_n 0, 1) := by decide +kernel
theorem nd_L_law_436 : decode code 436 = .ok (.iload 4, 2) := by decide +kernel
theorem nd_L_law_438 : decode code 438 = .ok (.iconst 2, 1) := by decide +kernel
theorem nd_L_law_439 : decode code 439 = .ok (.iadd, 1) := by decide +kernel
theorem nd_L_law_440 : decode code 440 = .ok (.iaload, 1) := by decide +kernel
theorem nd_L_law_441 : decode code 441 = .ok (.aload_n 0, 1) := by decide +kernel
theorem nd_L_law_442 : decode code 442 = .ok (.iload 4, 2) := by decide +kernel
theorem nd_L_law_444 : decode code 444 = .ok (.iconst 3, 1) := by decide +kernel
theorem nd_L_law_445 : decode code 445 = .ok (.iadd, 1) := by decide +kernel
theorem nd_L_law_446 : decode code 446 = .ok (.iaload, 1) := by decide +kernel
theorem nd_L_law_447 : decode code 447 = .ok (.invokestatic 87, 3) := by decide +kernel
theorem nd_L_law_450 : decode code 450 = .ok (.istore 5, 2) := by decide +kernel
theorem nd_L_law_452 : decode code 452 = .ok (.aload_n 2, 1) := by decide +kernel
theorem nd_L_law_453 : decode code 453 = .ok (.aload_n 0, 1) := by decide +kernel
theorem nd_L_law_454 : decode code 454 = .ok (.iload 4, 2) := by decide +kernel
theorem nd_L_law_456 : decode code 456 = .ok (.iconst 1, 1) := by decide +kernel
theorem nd_L_law_457 : decode code 457 = .ok (.iadd, 1) := by decide +kernel
theorem nd_L_law_458 : decode code 458 = .ok (.iaload, 1) := by decide +kernel
theorem nd_L_law_459 : decode code 459 = .ok (.aload_n 0, 1) := by decide +kernel
theorem nd_L_law_460 : decode code 460 = .ok (.iload 4, 2) := by decide +kernel
theorem nd_L_law_462 : decode code 462 = .ok (.iconst 2, 1) := by decide +kernel
theorem nd_L_law_463 : decode code 463 = .ok (.iadd, 1) := by decide +kernel
theorem nd_L_law_464 : decode code 464 = .ok (.iaload, 1) := by decide +kernel
theorem nd_L_law_465 : decode code 465 = .ok (.aload_n 0, 1) := by decide +kernel
theorem nd_L_law_466 : decode code 466 = .ok (.iload 4, 2) := by decide +kernel
theorem nd_L_law_468 : decode code 468 = .ok (.iconst 3, 1) := by decide +kernel
theorem nd_L_law_469 : decode code 469 = .ok (.iadd, 1) := by decide +kernel
theorem nd_L_law_470 : decode code 470 = .ok (.iaload, 1) := by decide +kernel
theorem nd_L_law_471 : decode code 471 = .ok (.invokevirtual 90, 3) := by decide +kernel
theorem nd_L_law_474 : decode code 474 = .ok (.aload_n 2, 1) := by decide +kernel
theorem nd_L_law_475 : decode code 475 = .ok (.invokevirtual 67, 3) := by decide +kernel
theorem nd_L_law_478 : decode code 478 = .ok (.iload 5, 2) := by decide +kernel
theorem nd_L_law_480 : decode code 480 = .ok (.if_icmp .eq 5, 3) := by decide +kernel
theorem nd_L_law_483 : decode code 483 = .ok (.iconst 0, 1) := by decide +kernel
theorem nd_L_law_484 : decode code 484 = .ok (.ireturn, 1) := by decide +kernel
theorem nd_L_law_485 : decode code 485 = .ok (.goto 473, 3) := by decide +kernel
theorem nd_L_law_488 : decode code 488 = .ok (.aload_n 1, 1) := by decide +kernel
theorem nd_L_law_489 : decode code 489 = .ok (.aload_n 0, 1) := by decide +kernel
theorem nd_L_law_490 : decode code 490 = .ok (.iload 4, 2) := by decide +kernel
theorem nd_L_law_492 : decode code 492 = .ok (.iconst 1, 1) := by decide +kernel
theorem nd_L_law_493 : decode code 493 = .ok (.iadd, 1) := by decide +kernel
theorem nd_L_law_494 : decode code 494 = .ok (.iaload, 1) := by decide +kernel
theorem nd_L_law_495 : decode code 495 = .ok (.aload_n 0, 1) := by decide +kernel
theorem nd_L_law_496 : decode code 496 = .ok (.iload 4, 2) := by decide +kernel
theorem nd_L_law_498 : decode code 498 = .ok (.iconst 2, 1) := by decide +kernel
theorem nd_L_law_499 : decode code 499 = .ok (.iadd, 1) := by decide +kernel
theorem nd_L_law_500 : decode code 500 = .ok (.iaload, 1) := by decide +kernel
theorem nd_L_law_501 : decode code 501 = .ok (.aload_n 0, 1) := by decide +kernel
theorem nd_L_law_502 : decode code 502 = .ok (.iload 4, 2) := by decide +kernel
theorem nd_L_law_504 : decode code 504 = .ok (.iconst 3, 1) := by decide +kernel
theorem nd_L_law_505 : decode code 505 = .ok (.iadd, 1) := by decide +kernel
theorem nd_L_law_506 : decode code 506 = .ok (.iaload, 1) := by decide +kernel
theorem nd_L_law_507 : decode code 507 = .ok (.aload_n 3, 1) := by decide +kernel
theorem nd_L_law_508 : decode code 508 = .ok (.invokestatic 91, 3) := by decide +kernel
theorem nd_L_law_511 : decode code 511 = .ok (.istore 5, 2) := by decide +kernel
theorem nd_L_law_513 : decode code 513 = .ok (.aload_n 2, 1) := by decide +kernel
theorem nd_L_law_514 : decode code 514 = .ok (.aload_n 0, 1) := by decide +kernel
theorem nd_L_law_515 : decode code 515 = .ok (.iload 4, 2) := by decide +kernel
theorem nd_L_law_517 : decode code 517 = .ok (.iconst 1, 1) := by decide +kernel
theorem nd_L_law_518 : decode code 518 = .ok (.iadd, 1) := by decide +kernel
theorem nd_L_law_519 : decode code 519 = .ok (.iaload, 1) := by decide +kernel
theorem nd_L_law_520 : decode code 520 = .ok (.aload_n 0, 1) := by decide +kernel
theorem nd_L_law_521 : decode code 521 = .ok (.iload 4, 2) := by decide +kernel
theorem nd_L_law_523 : decode code 523 = .ok (.iconst 2, 1) := by decide +kernel
theorem nd_L_law_524 : decode code 524 = .ok (.iadd, 1) := by decide +kernel
theorem nd_L_law_525 : decode code 525 = .ok (.iaload, 1) := by decide +kernel
theorem nd_L_law_526 : decode code 526 = .ok (.aload_n 0, 1) := by decide +kernel
theorem nd_L_law_527 : decode code 527 = .ok (.iload 4, 2) := by decide +kernel
theorem nd_L_law_529 : decode code 529 = .ok (.iconst 3, 1) := by decide +kernel
theorem nd_L_law_530 : decode code 530 = .ok (.iadd, 1) := by decide +kernel
theorem nd_L_law_531 : decode code 531 = .ok (.iaload, 1) := by decide +kernel
theorem nd_L_law_532 : decode code 532 = .ok (.invokevirtual 94, 3) := by decide +kernel
theorem nd_L_law_535 : decode code 535 = .ok (.istore 6, 2) := by decide +kernel
theorem nd_L_law_537 : decode code 537 = .ok (.aload_n 2, 1) := by decide +kernel
theorem nd_L_law_538 : decode code 538 = .ok (.invokevirtual 67, 3) := by decide +kernel
theorem nd_L_law_541 : decode code 541 = .ok (.iload 5, 2) := by decide +kernel
theorem nd_L_law_543 : decode code 543 = .ok (.if_icmp .eq 5, 3) := by decide +kernel
theorem nd_L_law_546 : decode code 546 = .ok (.iconst 0, 1) := by decide +kernel
theorem nd_L_law_547 : decode code 547 = .ok (.ireturn, 1) := by decide +kernel
theorem nd_L_law_548 : decode code 548 = .ok (.iload 5, 2) := by decide +kernel
theorem nd_L_law_550 : decode code 550 = .ok (.ifCond .ne 15, 3) := by decide +kernel
theorem nd_L_law_553 : decode code 553 = .ok (.aload_n 3, 1) := by decide +kernel
theorem nd_L_law_554 : decode code 554 = .ok (.iconst 0, 1) := by decide +kernel
theorem nd_L_law_555 : decode code 555 = .ok (.laload, 1) := by decide +kernel
theorem nd_L_law_556 : decode code 556 = .ok (.iload 6, 2) := by decide +kernel
theorem nd_L_law_558 : decode code 558 = .ok (.i2l, 1) := by decide +kernel
theorem nd_L_law_559 : decode code 559 = .ok (.lcmp, 1) := by decide +kernel
theorem nd_L_law_560 : decode code 560 = .ok (.ifCond .eq 5, 3) := by decide +kernel
theorem nd_L_law_563 : decode code 563 = .ok (.iconst 0, 1) := by decide +kernel
theorem nd_L_law_564 : decode code 564 = .ok (.ireturn, 1) := by decide +kernel
theorem nd_L_law_565 : decode code 565 = .ok (.goto 393, 3) := by decide +kernel
theorem nd_L_law_568 : decode code 568 = .ok (.aload_n 1, 1) := by decide +kernel
theorem nd_L_law_569 : decode code 569 = .ok (.aload_n 0, 1) := by decide +kernel
theorem nd_L_law_570 : decode code 570 = .ok (.iload 4, 2) := by decide +kernel
theorem nd_L_law_572 : decode code 572 = .ok (.iconst 1, 1) := by decide +kernel
theorem nd_L_law_573 : decode code 573 = .ok (.iadd, 1) := by decide +kernel
theorem nd_L_law_574 : decode code 574 = .ok (.iaload, 1) := by decide +kernel
theorem nd_L_law_575 : decode code 575 = .ok (.aload_n 0, 1) := by decide +kernel
theorem nd_L_law_576 : decode code 576 = .ok (.iload 4, 2) := by decide +kernel
theorem nd_L_law_578 : decode code 578 = .ok (.iconst 2, 1) := by decide +kernel
theorem nd_L_law_579 : decode code 579 = .ok (.iadd, 1) := by decide +kernel
theorem nd_L_law_580 : decode code 580 = .ok (.iaload, 1) := by decide +kernel
theorem nd_L_law_581 : decode code 581 = .ok (.aload_n 3, 1) := by decide +kernel
theorem nd_L_law_582 : decode code 582 = .ok (.invokestatic 95, 3) := by decide +kernel
theorem nd_L_law_585 : decode code 585 = .ok (.istore 5, 2) := by decide +kernel
theorem nd_L_law_587 : decode code 587 = .ok (.aload_n 2, 1) := by decide +kernel
theorem nd_L_law_588 : decode code 588 = .ok (.aload_n 0, 1) := by decide +kernel
theorem nd_L_law_589 : decode code 589 = .ok (.iload 4, 2) := by decide +kernel
theorem nd_L_law_591 : decode code 591 = .ok (.iconst 1, 1) := by decide +kernel
theorem nd_L_law_592 : decode code 592 = .ok (.iadd, 1) := by decide +kernel
theorem nd_L_law_593 : decode code 593 = .ok (.iaload, 1) := by decide +kernel
theorem nd_L_law_594 : decode code 594 = .ok (.aload_n 0, 1) := by decide +kernel
theorem nd_L_law_595 : decode code 595 = .ok (.iload 4, 2) := by decide +kernel
theorem nd_L_law_597 : decode code 597 = .ok (.iconst 2, 1) := by decide +kernel
theorem nd_L_law_598 : decode code 598 = .ok (.iadd, 1) := by decide +kernel
theorem nd_L_law_599 : decode code 599 = .ok (.iaload, 1) := by decide +kernel
theorem nd_L_law_600 : decode code 600 = .ok (.invokevirtual 98, 3) := by decide +kernel
theorem nd_L_law_603 : decode code 603 = .ok (.istore 6, 2) := by decide +kernel
theorem nd_L_law_605 : decode code 605 = .ok (.aload_n 2, 1) := by decide +kernel
theorem nd_L_law_606 : decode code 606 = .ok (.invokevirtual 67, 3) := by decide +kernel
theorem nd_L_law_609 : decode code 609 = .ok (.iload 5, 2) := by decide +kernel
theorem nd_L_law_611 : decode code 611 = .ok (.if_icmp .eq 5, 3) := by decide +kernel
theorem nd_L_law_614 : decode code 614 = .ok (.iconst 0, 1) := by decide +kernel
theorem nd_L_law_615 : decode code 615 = .ok (.ireturn, 1) := by decide +kernel
theorem nd_L_law_616 : decode code 616 = .ok (.iload 5, 2) := by decide +kernel
theorem nd_L_law_618 : decode code 618 = .ok (.ifCond .ne 15, 3) := by decide +kernel
theorem nd_L_law_621 : decode code 621 = .ok (.aload_n 3, 1) := by decide +kernel
theorem nd_L_law_622 : decode code 622 = .ok (.iconst 0, 1) := by decide +kernel
theorem nd_L_law_623 : decode code 623 = .ok (.laload, 1) := by decide +kernel
theorem nd_L_law_624 : decode code 624 = .ok (.iload 6, 2) := by decide +kernel
theorem nd_L_law_626 : decode code 626 = .ok (.i2l, 1) := by decide +kernel
theorem nd_L_law_627 : decode code 627 = .ok (.lcmp, 1) := by decide +kernel
theorem nd_L_law_628 : decode code 628 = .ok (.ifCond .eq 5, 3) := by decide +kernel
theorem nd_L_law_631 : decode code 631 = .ok (.iconst 0, 1) := by decide +kernel
theorem nd_L_law_632 : decode code 632 = .ok (.ireturn, 1) := by decide +kernel
theorem nd_L_law_633 : decode code 633 = .ok (.goto 325, 3) := by decide +kernel
theorem nd_L_law_636 : decode code 636 = .ok (.aload_n 1, 1) := by decide +kernel
theorem nd_L_law_637 : decode code 637 = .ok (.aload_n 0, 1) := by decide +kernel
theorem nd_L_law_638 : decode code 638 = .ok (.iload 4, 2) := by decide +kernel
theorem nd_L_law_640 : decode code 640 = .ok (.iconst 1, 1) := by decide +kernel
theorem nd_L_law_641 : decode code 641 = .ok (.iadd, 1) := by decide +kernel
theorem nd_L_law_642 : decode code 642 = .ok (.iaload, 1) := by decide +kernel
theorem nd_L_law_643 : decode code 643 = .ok (.aload_n 0, 1) := by decide +kernel
theorem nd_L_law_644 : decode code 644 = .ok (.iload 4, 2) := by decide +kernel
theorem nd_L_law_646 : decode code 646 = .ok (.iconst 2, 1) := by decide +kernel
theorem nd_L_law_647 : decode code 647 = .ok (.iadd, 1) := by decide +kernel
theorem nd_L_law_648 : decode code 648 = .ok (.iaload, 1) := by decide +kernel
theorem nd_L_law_649 : decode code 649 = .ok (.aload_n 0, 1) := by decide +kernel
theorem nd_L_law_650 : decode code 650 = .ok (.iload 4, 2) := by decide +kernel
theorem nd_L_law_652 : decode code 652 = .ok (.iconst 3, 1) := by decide +kernel
theorem nd_L_law_653 : decode code 653 = .ok (.iadd, 1) := by decide +kernel
theorem nd_L_law_654 : decode code 654 = .ok (.iaload, 1) := by decide +kernel
theorem nd_L_law_655 : decode code 655 = .ok (.invokestatic 99, 3) := by decide +kernel
theorem nd_L_law_658 : decode code 658 = .ok (.istore 5, 2) := by decide +kernel
theorem nd_L_law_660 : decode code 660 = .ok (.aload_n 2, 1) := by decide +kernel
theorem nd_L_law_661 : decode code 661 = .ok (.aload_n 0, 1) := by decide +kernel
theorem nd_L_law_662 : decode code 662 = .ok (.iload 4, 2) := by decide +kernel
theorem nd_L_law_664 : decode code 664 = .ok (.iconst 1, 1) := by decide +kernel
theorem nd_L_law_665 : decode code 665 = .ok (.iadd, 1) := by decide +kernel
theorem nd_L_law_666 : decode code 666 = .ok (.iaload, 1) := by decide +kernel
theorem nd_L_law_667 : decode code 667 = .ok (.aload_n 0, 1) := by decide +kernel
theorem nd_L_law_668 : decode code 668 = .ok (.iload 4, 2) := by decide +kernel
theorem nd_L_law_670 : decode code 670 = .ok (.iconst 2, 1) := by decide +kernel
theorem nd_L_law_671 : decode code 671 = .ok (.iadd, 1) := by decide +kernel
theorem nd_L_law_672 : decode code 672 = .ok (.iaload, 1) := by decide +kernel
theorem nd_L_law_673 : decode code 673 = .ok (.aload_n 0, 1) := by decide +kernel
theorem nd_L_law_674 : decode code 674 = .ok (.iload 4, 2) := by decide +kernel
theorem nd_L_law_676 : decode code 676 = .ok (.iconst 3, 1) := by decide +kernel
theorem nd_L_law_677 : decode code 677 = .ok (.iadd, 1) := by decide +kernel
theorem nd_L_law_678 : decode code 678 = .ok (.iaload, 1) := by decide +kernel
theorem nd_L_law_679 : decode code 679 = .ok (.invokevirtual 101, 3) := by decide +kernel
theorem nd_L_law_682 : decode code 682 = .ok (.aload_n 2, 1) := by decide +kernel
theorem nd_L_law_683 : decode code 683 = .ok (.invokevirtual 67, 3) := by decide +kernel
theorem nd_L_law_686 : decode code 686 = .ok (.iload 5, 2) := by decide +kernel
theorem nd_L_law_688 : decode code 688 = .ok (.if_icmp .eq 5, 3) := by decide +kernel
theorem nd_L_law_691 : decode code 691 = .ok (.iconst 0, 1) := by decide +kernel
theorem nd_L_law_692 : decode code 692 = .ok (.ireturn, 1) := by decide +kernel
theorem nd_L_law_693 : decode code 693 = .ok (.goto 265, 3) := by decide +kernel
theorem nd_L_law_696 : decode code 696 = .ok (.aload_n 1, 1) := by decide +kernel
theorem nd_L_law_697 : decode code 697 = .ok (.aload_n 0, 1) := by decide +kernel
theorem nd_L_law_698 : decode code 698 = .ok (.iload 4, 2) := by decide +kernel
theorem nd_L_law_700 : decode code 700 = .ok (.iconst 1, 1) := by decide +kernel
theorem nd_L_law_701 : decode code 701 = .ok (.iadd, 1) := by decide +kernel
theorem nd_L_law_702 : decode code 702 = .ok (.iaload, 1) := by decide +kernel
theorem nd_L_law_703 : decode code 703 = .ok (.aload_n 3, 1) := by decide +kernel
theorem nd_L_law_704 : decode code 704 = .ok (.invokestatic 102, 3) := by decide +kernel
theorem nd_L_law_707 : decode code 707 = .ok (.istore 5, 2) := by decide +kernel
theorem nd_L_law_709 : decode code 709 = .ok (.aload_n 2, 1) := by decide +kernel
theorem nd_L_law_710 : decode code 710 = .ok (.aload_n 0, 1) := by decide +kernel
theorem nd_L_law_711 : decode code 711 = .ok (.iload 4, 2) := by decide +kernel
theorem nd_L_law_713 : decode code 713 = .ok (.iconst 1, 1) := by decide +kernel
theorem nd_L_law_714 : decode code 714 = .ok (.iadd, 1) := by decide +kernel
theorem nd_L_law_715 : decode code 715 = .ok (.iaload, 1) := by decide +kernel
theorem nd_L_law_716 : decode code 716 = .ok (.invokevirtual 104, 3) := by decide +kernel
theorem nd_L_law_719 : decode code 719 = .ok (.istore 6, 2) := by decide +kernel
theorem nd_L_law_721 : decode code 721 = .ok (.aload_n 2, 1) := by decide +kernel
theorem nd_L_law_722 : decode code 722 = .ok (.invokevirtual 67, 3) := by decide +kernel
theorem nd_L_law_725 : decode code 725 = .ok (.iload 5, 2) := by decide +kernel
theorem nd_L_law_727 : decode code 727 = .ok (.if_icmp .eq 5, 3) := by decide +kernel
theorem nd_L_law_730 : decode code 730 = .ok (.iconst 0, 1) := by decide +kernel
theorem nd_L_law_731 : decode code 731 = .ok (.ireturn, 1) := by decide +kernel
theorem nd_L_law_732 : decode code 732 = .ok (.iload 5, 2) := by decide +kernel
theorem nd_L_law_734 : decode code 734 = .ok (.ifCond .ne 15, 3) := by decide +kernel
theorem nd_L_law_737 : decode code 737 = .ok (.aload_n 3, 1) := by decide +kernel
theorem nd_L_law_738 : decode code 738 = .ok (.iconst 0, 1) := by decide +kernel
theorem nd_L_law_739 : decode code 739 = .ok (.laload, 1) := by decide +kernel
theorem nd_L_law_740 : decode code 740 = .ok (.iload 6, 2) := by decide +kernel
theorem nd_L_law_742 : decode code 742 = .ok (.i2l, 1) := by decide +kernel
theorem nd_L_law_743 : decode code 743 = .ok (.lcmp, 1) := by decide +kernel
theorem nd_L_law_744 : decode code 744 = .ok (.ifCond .eq 5, 3) := by decide +kernel
theorem nd_L_law_747 : decode code 747 = .ok (.iconst 0, 1) := by decide +kernel
theorem nd_L_law_748 : decode code 748 = .ok (.ireturn, 1) := by decide +kernel
theorem nd_L_law_749 : decode code 749 = .ok (.goto 209, 3) := by decide +kernel
theorem nd_L_law_752 : decode code 752 = .ok (.aload_n 1, 1) := by decide +kernel
theorem nd_L_law_753 : decode code 753 = .ok (.aload_n 0, 1) := by decide +kernel
theorem nd_L_law_754 : decode code 754 = .ok (.iload 4, 2) := by decide +kernel
theorem nd_L_law_756 : decode code 756 = .ok (.iconst 1, 1) := by decide +kernel
theorem nd_L_law_757 : decode code 757 = .ok (.iadd, 1) := by decide +kernel
theorem nd_L_law_758 : decode code 758 = .ok (.iaload, 1) := by decide +kernel
theorem nd_L_law_759 : decode code 759 = .ok (.aload_n 3, 1) := by decide +kernel
theorem nd_L_law_760 : decode code 760 = .ok (.invokestatic 105, 3) := by decide +kernel
theorem nd_L_law_763 : decode code 763 = .ok (.istore 5, 2) := by decide +kernel
theorem nd_L_law_765 : decode code 765 = .ok (.aload_n 2, 1) := by decide +kernel
theorem nd_L_law_766 : decode code 766 = .ok (.aload_n 0, 1) := by decide +kernel
theorem nd_L_law_767 : decode code 767 = .ok (.iload 4, 2) := by decide +kernel
theorem nd_L_law_769 : decode code 769 = .ok (.iconst 1, 1) := by decide +kernel
theorem nd_L_law_770 : decode code 770 = .ok (.iadd, 1) := by decide +kernel
theorem nd_L_law_771 : decode code 771 = .ok (.iaload, 1) := by decide +kernel
theorem nd_L_law_772 : decode code 772 = .ok (.invokevirtual 107, 3) := by decide +kernel
theorem nd_L_law_775 : decode code 775 = .ok (.istore 6, 2) := by decide +kernel
theorem nd_L_law_777 : decode code 777 = .ok (.aload_n 2, 1) := by decide +kernel
theorem nd_L_law_778 : decode code 778 = .ok (.invokevirtual 67, 3) := by decide +kernel
theorem nd_L_law_781 : decode code 781 = .ok (.iload 5, 2) := by decide +kernel
theorem nd_L_law_783 : decode code 783 = .ok (.if_icmp .eq 5, 3) := by decide +kernel
theorem nd_L_law_786 : decode code 786 = .ok (.iconst 0, 1) := by decide +kernel
theorem nd_L_law_787 : decode code 787 = .ok (.ireturn, 1) := by decide +kernel
theorem nd_L_law_788 : decode code 788 = .ok (.iload 5, 2) := by decide +kernel
theorem nd_L_law_790 : decode code 790 = .ok (.ifCond .ne 15, 3) := by decide +kernel
theorem nd_L_law_793 : decode code 793 = .ok (.aload_n 3, 1) := by decide +kernel
theorem nd_L_law_794 : decode code 794 = .ok (.iconst 0, 1) := by decide +kernel
theorem nd_L_law_795 : decode code 795 = .ok (.laload, 1) := by decide +kernel
theorem nd_L_law_796 : decode code 796 = .ok (.iload 6, 2) := by decide +kernel
theorem nd_L_law_798 : decode code 798 = .ok (.i2l, 1) := by decide +kernel
theorem nd_L_law_799 : decode code 799 = .ok (.lcmp, 1) := by decide +kernel
theorem nd_L_law_800 : decode code 800 = .ok (.ifCond .eq 5, 3) := by decide +kernel
theorem nd_L_law_803 : decode code 803 = .ok (.iconst 0, 1) := by decide +kernel
theorem nd_L_law_804 : decode code 804 = .ok (.ireturn, 1) := by decide +kernel
theorem nd_L_law_805 : decode code 805 = .ok (.goto 153, 3) := by decide +kernel
theorem nd_L_law_808 : decode code 808 = .ok (.aload_n 1, 1) := by decide +kernel
theorem nd_L_law_809 : decode code 809 = .ok (.aload_n 0, 1) := by decide +kernel
theorem nd_L_law_810 : decode code 810 = .ok (.iload 4, 2) := by decide +kernel
theorem nd_L_law_812 : decode code 812 = .ok (.iconst 1, 1) := by decide +kernel
theorem nd_L_law_813 : decode code 813 = .ok (.iadd, 1) := by decide +kernel
theorem nd_L_law_814 : decode code 814 = .ok (.iaload, 1) := by decide +kernel
theorem nd_L_law_815 : decode code 815 = .ok (.invokevirtual 108, 3) := by decide +kernel
theorem nd_L_law_818 : decode code 818 = .ok (.aload_n 2, 1) := by decide +kernel
theorem nd_L_law_819 : decode code 819 = .ok (.aload_n 0, 1) := by decide +kernel
theorem nd_L_law_820 : decode code 820 = .ok (.iload 4, 2) := by decide +kernel
theorem nd_L_law_822 : decode code 822 = .ok (.iconst 1, 1) := by decide +kernel
theorem nd_L_law_823 : decode code 823 = .ok (.iadd, 1) := by decide +kernel
theorem nd_L_law_824 : decode code 824 = .ok (.iaload, 1) := by decide +kernel
theorem nd_L_law_825 : decode code 825 = .ok (.invokevirtual 111, 3) := by decide +kernel
theorem nd_L_law_828 : decode code 828 = .ok (.if_icmp .eq 130, 3) := by decide +kernel
theorem nd_L_law_831 : decode code 831 = .ok (.iconst 0, 1) := by decide +kernel
theorem nd_L_law_832 : decode code 832 = .ok (.ireturn, 1) := by decide +kernel
theorem nd_L_law_833 : decode code 833 = .ok (.aload_n 1, 1) := by decide +kernel
theorem nd_L_law_834 : decode code 834 = .ok (.aload_n 0, 1) := by decide +kernel
theorem nd_L_law_835 : decode code 835 = .ok (.iload 4, 2) := by decide +kernel
theorem nd_L_law_837 : decode code 837 = .ok (.iconst 1, 1) := by decide +kernel
theorem nd_L_law_838 : decode code 838 = .ok (.iadd, 1) := by decide +kernel
theorem nd_L_law_839 : decode code 839 = .ok (.iaload, 1) := by decide +kernel
theorem nd_L_law_840 : decode code 840 = .ok (.aload_n 0, 1) := by decide +kernel
theorem nd_L_law_841 : decode code 841 = .ok (.iload 4, 2) := by decide +kernel
theorem nd_L_law_843 : decode code 843 = .ok (.iconst 2, 1) := by decide +kernel
theorem nd_L_law_844 : decode code 844 = .ok (.iadd, 1) := by decide +kernel
theorem nd_L_law_845 : decode code 845 = .ok (.iaload, 1) := by decide +kernel
theorem nd_L_law_846 : decode code 846 = .ok (.invokevirtual 112, 3) := by decide +kernel
theorem nd_L_law_849 : decode code 849 = .ok (.aload_n 2, 1) := by decide +kernel
theorem nd_L_law_850 : decode code 850 = .ok (.aload_n 0, 1) := by decide +kernel
theorem nd_L_law_851 : decode code 851 = .ok (.iload 4, 2) := by decide +kernel
theorem nd_L_law_853 : decode code 853 = .ok (.iconst 1, 1) := by decide +kernel
theorem nd_L_law_854 : decode code 854 = .ok (.iadd, 1) := by decide +kernel
theorem nd_L_law_855 : decode code 855 = .ok (.iaload, 1) := by decide +kernel
theorem nd_L_law_856 : decode code 856 = .ok (.aload_n 0, 1) := by decide +kernel
theorem nd_L_law_857 : decode code 857 = .ok (.iload 4, 2) := by decide +kernel
theorem nd_L_law_859 : decode code 859 = .ok (.iconst 2, 1) := by decide +kernel
theorem nd_L_law_860 : decode code 860 = .ok (.iadd, 1) := by decide +kernel
theorem nd_L_law_861 : decode code 861 = .ok (.iaload, 1) := by decide +kernel
theorem nd_L_law_862 : decode code 862 = .ok (.invokevirtual 115, 3) := by decide +kernel
theorem nd_L_law_865 : decode code 865 = .ok (.if_icmp .eq 93, 3) := by decide +kernel
theorem nd_L_law_868 : decode code 868 = .ok (.iconst 0, 1) := by decide +kernel
theorem nd_L_law_869 : decode code 869 = .ok (.ireturn, 1) := by decide +kernel
theorem nd_L_law_870 : decode code 870 = .ok (.aload_n 1, 1) := by decide +kernel
theorem nd_L_law_871 : decode code 871 = .ok (.aload_n 0, 1) := by decide +kernel
theorem nd_L_law_872 : decode code 872 = .ok (.iload 4, 2) := by decide +kernel
theorem nd_L_law_874 : decode code 874 = .ok (.iconst 1, 1) := by decide +kernel
theorem nd_L_law_875 : decode code 875 = .ok (.iadd, 1) := by decide +kernel
theorem nd_L_law_876 : decode code 876 = .ok (.iaload, 1) := by decide +kernel
theorem nd_L_law_877 : decode code 877 = .ok (.aload_n 0, 1) := by decide +kernel
theorem nd_L_law_878 : decode code 878 = .ok (.iload 4, 2) := by decide +kernel
theorem nd_L_law_880 : decode code 880 = .ok (.iconst 2, 1) := by decide +kernel
theorem nd_L_law_881 : decode code 881 = .ok (.iadd, 1) := by decide +kernel
theorem nd_L_law_882 : decode code 882 = .ok (.iaload, 1) := by decide +kernel
theorem nd_L_law_883 : decode code 883 = .ok (.invokevirtual 116, 3) := by decide +kernel
theorem nd_L_law_886 : decode code 886 = .ok (.aload_n 2, 1) := by decide +kernel
theorem nd_L_law_887 : decode code 887 = .ok (.aload_n 0, 1) := by decide +kernel
theorem nd_L_law_888 : decode code 888 = .ok (.iload 4, 2) := by decide +kernel
theorem nd_L_law_890 : decode code 890 = .ok (.iconst 1, 1) := by decide +kernel
theorem nd_L_law_891 : decode code 891 = .ok (.iadd, 1) := by decide +kernel
theorem nd_L_law_892 : decode code 892 = .ok (.iaload, 1) := by decide +kernel
theorem nd_L_law_893 : decode code 893 = .ok (.aload_n 0, 1) := by decide +kernel
theorem nd_L_law_894 : decode code 894 = .ok (.iload 4, 2) := by decide +kernel
theorem nd_L_law_896 : decode code 896 = .ok (.iconst 2, 1) := by decide +kernel
theorem nd_L_law_897 : decode code 897 = .ok (.iadd, 1) := by decide +kernel
theorem nd_L_law_898 : decode code 898 = .ok (.iaload, 1) := by decide +kernel
theorem nd_L_law_899 : decode code 899 = .ok (.invokevirtual 119, 3) := by decide +kernel
theorem nd_L_law_902 : decode code 902 = .ok (.if_icmp .eq 56, 3) := by decide +kernel
theorem nd_L_law_905 : decode code 905 = .ok (.iconst 0, 1) := by decide +kernel
theorem nd_L_law_906 : decode code 906 = .ok (.ireturn, 1) := by decide +kernel
theorem nd_L_law_907 : decode code 907 = .ok (.aload_n 1, 1) := by decide +kernel
theorem nd_L_law_908 : decode code 908 = .ok (.aload_n 0, 1) := by decide +kernel
theorem nd_L_law_909 : decode code 909 = .ok (.iload 4, 2) := by decide +kernel
theorem nd_L_law_911 : decode code 911 = .ok (.iconst 1, 1) := by decide +kernel
theorem nd_L_law_912 : decode code 912 = .ok (.iadd, 1) := by decide +kernel
theorem nd_L_law_913 : decode code 913 = .ok (.iaload, 1) := by decide +kernel
theorem nd_L_law_914 : decode code 914 = .ok (.invokevirtual 120, 3) := by decide +kernel
theorem nd_L_law_917 : decode code 917 = .ok (.aload_n 2, 1) := by decide +kernel
theorem nd_L_law_918 : decode code 918 = .ok (.aload_n 0, 1) := by decide +kernel
theorem nd_L_law_919 : decode code 919 = .ok (.iload 4, 2) := by decide +kernel
theorem nd_L_law_921 : decode code 921 = .ok (.iconst 1, 1) := by decide +kernel
theorem nd_L_law_922 : decode code 922 = .ok (.iadd, 1) := by decide +kernel
theorem nd_L_law_923 : decode code 923 = .ok (.iaload, 1) := by decide +kernel
theorem nd_L_law_924 : decode code 924 = .ok (.invokevirtual 123, 3) := by decide +kernel
theorem nd_L_law_927 : decode code 927 = .ok (.if_icmp .eq 31, 3) := by decide +kernel
theorem nd_L_law_930 : decode code 930 = .ok (.iconst 0, 1) := by decide +kernel
theorem nd_L_law_931 : decode code 931 = .ok (.ireturn, 1) := by decide +kernel
theorem nd_L_law_932 : decode code 932 = .ok (.aload_n 1, 1) := by decide +kernel
theorem nd_L_law_933 : decode code 933 = .ok (.invokevirtual 124, 3) := by decide +kernel
theorem nd_L_law_936 : decode code 936 = .ok (.aload_n 2, 1) := by decide +kernel
theorem nd_L_law_937 : decode code 937 = .ok (.invokevirtual 127, 3) := by decide +kernel
theorem nd_L_law_940 : decode code 940 = .ok (.if_icmp .eq 18, 3) := by decide +kernel
theorem nd_L_law_943 : decode code 943 = .ok (.iconst 0, 1) := by decide +kernel
theorem nd_L_law_944 : decode code 944 = .ok (.ireturn, 1) := by decide +kernel
theorem nd_L_law_945 : decode code 945 = .ok (.aload_n 1, 1) := by decide +kernel
theorem nd_L_law_946 : decode code 946 = .ok (.invokevirtual 128, 3) := by decide +kernel
theorem nd_L_law_949 : decode code 949 = .ok (.aload_n 2, 1) := by decide +kernel
theorem nd_L_law_950 : decode code 950 = .ok (.invokevirtual 131, 3) := by decide +kernel
theorem nd_L_law_953 : decode code 953 = .ok (.if_icmp .eq 5, 3) := by decide +kernel
theorem nd_L_law_956 : decode code 956 = .ok (.iconst 0, 1) := by decide +kernel
theorem nd_L_law_957 : decode code 957 = .ok (.ireturn, 1) := by decide +kernel
theorem nd_L_law_958 : decode code 958 = .ok (.iinc 4 4, 3) := by decide +kernel
theorem nd_L_law_961 : decode code 961 = .ok (.goto (-938), 3) := by decide +kernel
theorem nd_L_law_964 : decode code 964 = .ok (.iconst 1, 1) := by decide +kernel
theorem nd_L_law_965 : decode code 965 = .ok (.ireturn, 1) := by decide +kernel
/-! THE CLAIM OUT OF ONE WALK OF THE LAW'S BODY. Your part is whole_start (and what it stands on); all else here is the same for every law, but numbers. -/
def R_law : String := "MovedFramesLaw"
def lw_P (b : Addr) (xs : List Int32) (args : Array Value) (s : State) : Prop := args = #[.ref b] ∧ s.IntsAt b xs ∧ xs.length ≤ 4 ∧ (Jvm.Cond.and given_1 narrow_1).before args s = true
def lw_Q (_ : Array Value) (s : State) (o : Outcome) (t : State) : Prop := o = .returned (some (.int 1)) ∧ Framed s o t [] 40 5052
def lw_Z (below : List Frame) (a : Array Value) (s : State) : State → Prop := fun t => ∃ o, t.status = .running ∧ Ended t below o ∧ lw_Q a s o t
/-- the law's own end, with 1 on the stack, nothing written that was there before, its room as the claim has it -/
theorem lw_ret {p : Program} {l : Launch} {e : Env} {s : State} {m : MethodId} {below : List Frame} {meth : Method} {c : Code} {b : Nat} (hx : p.tables.exec = Jvm.exec) (hb : c.code = code) (hr : meth.sig.returnType = ret) (hlocks : meth.locks = false) {pc : Nat} {H : Heap} {ls : Array Slot} (hdg : decode code pc = .ok (.ireturn, 1)) : W p l e room_1 s m #[Value.ref b] below meth c H [] 40 5052 (lw_Z below #[Value.ref b] s) (F0 m pc ls [.int 1]) := by
  intro T hT X
  obtain ⟨fs, hret, hrun, hended, hW, hframe⟩ := X.leave (v := some (.int 1)) (hlocks := hlocks) (fun h => by rw [hr] at h; cases h)
  have hmeth' : T.vm.method? m = some meth := X.method'
  refine ⟨T.setFrames fs, ?_, .returned (some (.int 1)), hrun, hended, rfl, ⟨_, rfl⟩, hW, hframe⟩
  jvm_step X.here [X.here.top, hx, hb, hdg, hmeth', hr, ret, narrow_b1]
  (try refine ⟨rfl, ?_⟩); (try refine ⟨rfl, ?_⟩)
  first | (intro acts; rw [hret _ acts rfl rfl rfl]) | rw [hret _ _ rfl rfl rfl]
  exact Steps.refl _
/-- what holds at the law's entry: the machine, the code, the tables' words (any of lw_tbl by 'hts w (by decide +kernel)'), the script of L ints xs at the cell b, what the Statement gives of the start (any of its parts by flat_of_before) -/
def lw_At (p : Program) (s : State) (m : MethodId) (meth : Method) (c : Code) (b L : Nat) (xs : Nat → Int32) : Prop :=
  p.tables.exec = Jvm.exec ∧ c.code = code ∧ meth.sig.returnType = ret ∧ c.maxLocals = 7 ∧ s.vm.findClass R_law = some m.cls ∧ (∀ w ∈ lw_tbl, w.before #[Value.ref b] s = true) ∧ va_X b L xs s s.heap ∧ b < s.heap.size ∧ meth.locks = false ∧ (Jvm.Cond.and given_1 narrow_1).before #[Value.ref b] s = true
def wl_ (q r : Nat → Nat) (qo : Nat) (cI cZ cJ : ClassId) (u : CS × (Nat → Int64) × MS) : va_W := wd_C q cI cZ u.1 ++ (wo_ qo cJ u.2.1 :: wd_M r cI cZ u.2.2)
abbrev ty3_ (cI cZ cJ : ClassId) : List (ClassId × FieldType) := [(cI, .int), (cZ, .boolean), (cJ, .long)]
section LC
variable {p : Program} {l : Launch} {e : Env} {R : Room} {s : State} {m : MethodId} {args : Array Value} {below : List Frame} {meth : Method} {c : Code} {H : Heap} {locs : List Loc} {cells slots mc ms : Nat} {Q : State → Prop}
variable {pc : Nat} {ls : Array Slot} {rest st0 : List Value} {D : va_G} {A : Nat → Prop} {a : Array Value} {q r : Nat → Nat} {qo : Nat} {cI cZ cJ : ClassId} {σ σ' : CS} {τ τ' : MS} {o o' : Nat → Int64} {v : Int32} {tys : List (ClassId × FieldType)}
/-- a helper's call -/
theorem lc_h (hr : va_Run p l e R s m args below meth c H locs cells slots mc ms (F0 m pc ls st0) rest (qi_ D (wh_ q qo cI cZ cJ) tys (va_A (wh_ q qo cI cZ cJ (σ, o)) H.size) v (σ', o') a) (va_A (wh_ q qo cI cZ cJ (σ, o)) H.size))
    (hP : va_P D vwCl (wl_ q r qo cI cZ cJ (σ, o, τ)) H) (hD : va_D A (wl_ q r qo cI cZ cJ (σ, o, τ))) (hS : va_S A s.heap H locs) (hA : ∀ q, s.heap.size ≤ q → A q)
    (kk : ∀ (H1 : Heap) (locs1 : List Loc), va_P D vwCl (wl_ q r qo cI cZ cJ (σ', o', τ)) H1 → va_D A (wl_ q r qo cI cZ cJ (σ', o', τ)) → va_S A s.heap H1 locs1 → W p l e R s m args below meth c H1 locs1 (cells + mc) (slots + ms) Q (F0 m (pc + 3) ls (.int v :: rest))) :
    W p l e R s m args below meth c H locs cells slots Q (F0 m pc ls st0) := by
  have hFc := va_free (wc := wh_ q qo cI cZ cJ (σ, o)) hD hS hA [0, 1, 2, 3, 4, 5, 6, 7, 8, 9, 10, 11, 12, 13, 14, 15, 16] rfl
  refine va_calli hr hS (fun q _ h => hFc q h) hFc (fun r9 u t H1 locs1 ht hvm hw hB hz1 hk1 hS1 => ?_)
  obtain ⟨hr9, hu⟩ := hw
  obtain ⟨hP1, hK1, hD1⟩ := hB
  rw [ht] at hP1
  rw [hu] at hP1 hD1
  rw [hr9]
  obtain ⟨hP, hD⟩ := va_join (wc := wh_ q qo cI cZ cJ (σ, o)) (wr := wd_M r cI cZ τ) (w1 := wh_ q qo cI cZ cJ (σ', o')) hP hD [0, 1, 2, 3, 4, 5, 6, 7, 8, 9, 10, 11, 12, 13, 14, 15, 16] [17, 18, 19, 20, 21, 22, 23, 24, 25, 26] rfl rfl (by decide) (by decide) hk1 hFc hP1 hD1
  exact kk H1 locs1 (hP.sub [10, 11, 12, 13, 14, 15, 16, 17, 18, 19, 20, 21, 22, 23, 24, 25, 26, 0, 1, 2, 3, 4, 5, 6, 7, 8, 9] rfl) (hD.sub [10, 11, 12, 13, 14, 15, 16, 17, 18, 19, 20, 21, 22, 23, 24, 25, 26, 0, 1, 2, 3, 4, 5, 6, 7, 8, 9] (by decide) rfl) hS1
/-- a call of the class itself -/
theorem lc_c (hr : va_Run p l e R s m args below meth c H locs cells slots mc ms (F0 m pc ls st0) rest (qi_ D (wd_C q cI cZ) tys (va_A (wd_C q cI cZ σ) H.size) v σ' a) (va_A (wd_C q cI cZ σ) H.size))
    (hP : va_P D vwCl (wl_ q r qo cI cZ cJ (σ, o, τ)) H) (hD : va_D A (wl_ q r qo cI cZ cJ (σ, o, τ))) (hS : va_S A s.heap H locs) (hA : ∀ q, s.heap.size ≤ q → A q)
    (kk : ∀ (H1 : Heap) (locs1 : List Loc), va_P D vwCl (wl_ q r qo cI cZ cJ (σ', o, τ)) H1 → va_D A (wl_ q r qo cI cZ cJ (σ', o, τ)) → va_S A s.heap H1 locs1 → W p l e R s m args below meth c H1 locs1 (cells + mc) (slots + ms) Q (F0 m (pc + 3) ls (.int v :: rest))) :
    W p l e R s m args below meth c H locs cells slots Q (F0 m pc ls st0) := by
  have hFc := va_free (wc := wd_C q cI cZ σ) hD hS hA [0, 1, 2, 3, 4, 5, 6, 7, 8, 9, 10, 11, 12, 13, 14, 15] rfl
  refine va_calli hr hS (fun q _ h => hFc q h) hFc (fun r9 u t H1 locs1 ht hvm hw hB hz1 hk1 hS1 => ?_)
  obtain ⟨hr9, hu⟩ := hw
  obtain ⟨hP1, hK1, hD1⟩ := hB
  rw [ht] at hP1
  rw [hu] at hP1 hD1
  rw [hr9]
  obtain ⟨hP, hD⟩ := va_join (wc := wd_C q cI cZ σ) (wr := wo_ qo cJ o :: wd_M r cI cZ τ) (w1 := wd_C q cI cZ σ') hP hD [0, 1, 2, 3, 4, 5, 6, 7, 8, 9, 10, 11, 12, 13, 14, 15] [16, 17, 18, 19, 20, 21, 22, 23, 24, 25, 26] rfl rfl (by decide) (by decide) hk1 hFc hP1 hD1
  exact kk H1 locs1 (hP.sub [11, 12, 13, 14, 15, 16, 17, 18, 19, 20, 21, 22, 23, 24, 25, 26, 0, 1, 2, 3, 4, 5, 6, 7, 8, 9, 10] rfl) (hD.sub [11, 12, 13, 14, 15, 16, 17, 18, 19, 20, 21, 22, 23, 24, 25, 26, 0, 1, 2, 3, 4, 5, 6, 7, 8, 9, 10] (by decide) rfl) hS1
/-- a call of the reference -/
theorem lc_m (hr : va_Run p l e R s m args below meth c H locs cells slots mc ms (F0 m pc ls st0) rest (qi_ D (wd_M r cI cZ) tys (va_A (wd_M r cI cZ τ) H.size) v τ' a) (va_A (wd_M r cI cZ τ) H.size))
    (hP : va_P D vwCl (wl_ q r qo cI cZ cJ (σ, o, τ)) H) (hD : va_D A (wl_ q r qo cI cZ cJ (σ, o, τ))) (hS : va_S A s.heap H locs) (hA : ∀ q, s.heap.size ≤ q → A q)
    (kk : ∀ (H1 : Heap) (locs1 : List Loc), va_P D vwCl (wl_ q r qo cI cZ cJ (σ, o, τ')) H1 → va_D A (wl_ q r qo cI cZ cJ (σ, o, τ')) → va_S A s.heap H1 locs1 → W p l e R s m args below meth c H1 locs1 (cells + mc) (slots + ms) Q (F0 m (pc + 3) ls (.int v :: rest))) :
    W p l e R s m args below meth c H locs cells slots Q (F0 m pc ls st0) := by
  have hFc := va_free (wc := wd_M r cI cZ τ) hD hS hA [17, 18, 19, 20, 21, 22, 23, 24, 25, 26] rfl
  refine va_calli hr hS (fun q _ h => hFc q h) hFc (fun r9 u t H1 locs1 ht hvm hw hB hz1 hk1 hS1 => ?_)
  obtain ⟨hr9, hu⟩ := hw
  obtain ⟨hP1, hK1, hD1⟩ := hB
  rw [ht] at hP1
  rw [hu] at hP1 hD1
  rw [hr9]
  obtain ⟨hP, hD⟩ := va_join (wc := wd_M r cI cZ τ) (wr := wh_ q qo cI cZ cJ (σ, o)) (w1 := wd_M r cI cZ τ') hP hD [17, 18, 19, 20, 21, 22, 23, 24, 25, 26] [0, 1, 2, 3, 4, 5, 6, 7, 8, 9, 10, 11, 12, 13, 14, 15, 16] rfl rfl (by decide) (by decide) hk1 hFc hP1 hD1
  exact kk H1 locs1 (hP.sub [0, 1, 2, 3, 4, 5, 6, 7, 8, 9, 10, 11, 12, 13, 14, 15, 16, 17, 18, 19, 20, 21, 22, 23, 24, 25, 26] rfl) (hD.sub [0, 1, 2, 3, 4, 5, 6, 7, 8, 9, 10, 11, 12, 13, 14, 15, 16, 17, 18, 19, 20, 21, 22, 23, 24, 25, 26] (by decide) rfl) hS1
theorem lc_mv (hr : va_Run p l e R s m args below meth c H locs cells slots mc ms (F0 m pc ls st0) rest (qv_ D (wd_M r cI cZ) tys (va_A (wd_M r cI cZ τ) H.size) τ' a) (va_A (wd_M r cI cZ τ) H.size))
    (hP : va_P D vwCl (wl_ q r qo cI cZ cJ (σ, o, τ)) H) (hD : va_D A (wl_ q r qo cI cZ cJ (σ, o, τ))) (hS : va_S A s.heap H locs) (hA : ∀ q, s.heap.size ≤ q → A q)
    (kk : ∀ (H1 : Heap) (locs1 : List Loc), va_P D vwCl (wl_ q r qo cI cZ cJ (σ, o, τ')) H1 → va_D A (wl_ q r qo cI cZ cJ (σ, o, τ')) → va_S A s.heap H1 locs1 → W p l e R s m args below meth c H1 locs1 (cells + mc) (slots + ms) Q (F0 m (pc + 3) ls rest)) :
    W p l e R s m args below meth c H locs cells slots Q (F0 m pc ls st0) := by
  have hFc := va_free (wc := wd_M r cI cZ τ) hD hS hA [17, 18, 19, 20, 21, 22, 23, 24, 25, 26] rfl
  refine va_callv hr hS (fun q _ h => hFc q h) hFc (fun u t H1 locs1 ht hvm hw hB hz1 hk1 hS1 => ?_)
  obtain ⟨hP1, hK1, hD1⟩ := hB
  rw [ht] at hP1
  rw [hw] at hP1 hD1
  obtain ⟨hP, hD⟩ := va_join (wc := wd_M r cI cZ τ) (wr := wh_ q qo cI cZ cJ (σ, o)) (w1 := wd_M r cI cZ τ') hP hD [17, 18, 19, 20, 21, 22, 23, 24, 25, 26] [0, 1, 2, 3, 4, 5, 6, 7, 8, 9, 10, 11, 12, 13, 14, 15, 16] rfl rfl (by decide) (by decide) hk1 hFc hP1 hD1
  exact kk H1 locs1 (hP.sub [0, 1, 2, 3, 4, 5, 6, 7, 8, 9, 10, 11, 12, 13, 14, 15, 16, 17, 18, 19, 20, 21, 22, 23, 24, 25, 26] rfl) (hD.sub [0, 1, 2, 3, 4, 5, 6, 7, 8, 9, 10, 11, 12, 13, 14, 15, 16, 17, 18, 19, 20, 21, 22, 23, 24, 25, 26] (by decide) rfl) hS1
end LC
theorem sw_31 (x : Int32) : ∃ c, c < 32 ∧ x &&& 31 = nI c := by
  refine ⟨(x &&& 31).toBitVec.toNat, ?_, ?_⟩
  · have h : (x &&& 31).toBitVec = x.toBitVec &&& 31#32 := rfl
    rw [h, BitVec.toNat_and]
    exact Nat.lt_of_le_of_lt Nat.and_le_right (by decide)
  · apply Int32.toBitVec_inj.mp
    show _ = BitVec.ofNat 32 _
    simp
theorem sw_in {x : Int32} {lo hi : Int} {offs : Array Int} {c : Nat} {o : Int} (h : x = nI c) (h1 : ¬ (nI c).toInt < lo) (h2 : ¬ hi < (nI c).toInt) (h3 : offs[((nI c).toInt - lo).toNat]? = some o) : ¬ x.toInt < lo ∧ ¬ hi < x.toInt ∧ offs[(x.toInt - lo).toNat]? = some o := by
  subst h; exact ⟨h1, h2, h3⟩
theorem sc_in {j k L : Nat} (hj : 4 * j + 4 ≤ L) (hL : L ≤ 2048) (hk : k < 4) : vp_in (nI (4 * j) + nI k) L := by
  rw [nI_add]
  exact nI_in (by omega) (by omega)
def lx_ (p : Program) (l : Launch) (s : State) (m : MethodId) (meth : Method) (c : Code) (b L : Nat) (xs : Nat → Int32) (D : va_G) (cI cZ cJ : ClassId) (A : Nat → Prop) : Prop :=
  p.tables.exec = Jvm.exec ∧ c.code = code ∧ meth.sig.returnType = ret ∧ c.maxLocals = 7 ∧ s.vm.findClass "MovedFramesLaw" = some m.cls ∧ (∀ w ∈ BG, w.before #[Value.ref b] s = true) ∧ va_X b L xs s s.heap ∧ b < s.heap.size ∧ ¬ A b ∧ meth.locks = false ∧ va_K D vwCl (ty3_ cI cZ cJ) s ∧ nl_ s ∧ tp_ s ∧ zq_ A s s.heap ∧ nc_ s ∧ (∀ q, s.heap.size ≤ q → A q) ∧ (∀ q, A q → s.heap.size ≤ q) ∧ l.stackTraces = false
def bw_ (p : Program) (l : Launch) (e : Env) (s : State) (m : MethodId) (below : List Frame) (meth : Method) (c : Code) (Q : State → Prop) (A : Nat → Prop) (D : va_G) (q r : Nat → Nat) (qo : Nat) (cI cZ cJ : ClassId) (b cells slots pc : Nat) (lv : List (Nat × Value)) (st : List Value) (u : CS × (Nat → Int64) × MS) : Prop :=
  ∀ (ls : Array Slot) (H : Heap) (locs : List Loc), lv_has ls 7 lv → va_P D vwCl (wl_ q r qo cI cZ cJ u) H → va_D A (wl_ q r qo cI cZ cJ u) → va_S A s.heap H locs → W p l e room_1 s m #[Value.ref b] below meth c H locs cells slots Q (F0 m pc ls st)
