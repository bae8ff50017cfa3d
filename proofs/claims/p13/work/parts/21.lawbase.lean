theorem nd_L_law_0 : decode code 0 = .ok (.new 8, 3) := by decide +kernel
theorem nd_L_law_3 : decode code 3 = .ok (.dup, 1) := by decide +kernel
theorem nd_L_law_4 : decode code 4 = .ok (.invokespecial 57, 3) := by decide +kernel
theorem nd_L_law_7 : decode code 7 = .ok (.astore_n 1, 1) := by decide +kernel
theorem nd_L_law_8 : decode code 8 = .ok (.new 58, 3) := by decide +kernel
theorem nd_L_law_11 : decode code 11 = .ok (.dup, 1) := by decide +kernel
theorem nd_L_law_12 : decode code 12 = .ok (.invokespecial 60, 3) := by decide +kernel
theorem nd_L_law_15 : decode code 15 = .ok (.astore_n 2, 1) := by decide +kernel
theorem nd_L_law_16 : decode code 16 = .ok (.iconst 1, 1) := by decide +kernel
theorem nd_L_law_17 : decode code 17 = .ok (.newarray .long, 2) := by decide +kernel
theorem nd_L_law_19 : decode code 19 = .ok (.astore_n 3, 1) := by decide +kernel
theorem nd_L_law_20 : decode code 20 = .ok (.iconst 0, 1) := by decide +kernel
theorem nd_L_law_21 : decode code 21 = .ok (.istore 4, 2) := by decide +kernel
theorem nd_L_law_23 : decode code 23 = .ok (.iload 4, 2) := by decide +kernel
theorem nd_L_law_25 : decode code 25 = .ok (.aload_n 0, 1) := by decide +kernel
theorem nd_L_law_26 : decode code 26 = .ok (.arraylength, 1) := by decide +kernel
theorem nd_L_law_27 : decode code 27 = .ok (.iconst 4, 1) := by decide +kernel
theorem nd_L_law_28 : decode code 28 = .ok (.isub, 1) := by decide +kernel
theorem nd_L_law_29 : decode code 29 = .ok (.if_icmp .gt 678, 3) := by decide +kernel
theorem nd_L_law_32 : decode code 32 = .ok (.aload_n 0, 1) := by decide +kernel
theorem nd_L_law_33 : decode code 33 = .ok (.iload 4, 2) := by decide +kernel
theorem nd_L_law_35 : decode code 35 = .ok (.iaload, 1) := by decide +kernel
theorem nd_L_law_36 : decode code 36 = .ok (.bipush 31, 2) := by decide +kernel
theorem nd_L_law_38 : decode code 38 = .ok (.iand, 1) := by decide +kernel
theorem nd_L_law_39 : decode code 39 = .ok (.tableswitch 662 0 17 #[85, 113, 138, 166, 194, 210, 238, 287, 339, 379, 428, 456, 512, 537, 574, 611, 636, 649], 85) := by decide +kernel
theorem nd_L_law_124 : decode code 124 = .ok (.aload_n 1, 1) := by decide +kernel
theorem nd_L_law_125 : decode code 125 = .ok (.aload_n 0, 1) := by decide +kernel
theorem nd_L_law_126 : decode code 126 = .ok (.iload 4, 2) := by decide +kernel
theorem nd_L_law_128 : decode code 128 = .ok (.iconst 1, 1) := by decide +kernel
theorem nd_L_law_129 : decode code 129 = .ok (.iadd, 1) := by decide +kernel
theorem nd_L_law_130 : decode code 130 = .ok (.iaload, 1) := by decide +kernel
theorem nd_L_law_131 : decode code 131 = .ok (.aload_n 3, 1) := by decide +kernel
theorem nd_L_law_132 : decode code 132 = .ok (.invokestatic 61, 3) := by decide +kernel
theorem nd_L_law_135 : decode code 135 = .ok (.istore 5, 2) := by decide +kernel
theorem nd_L_law_137 : decode code 137 = .ok (.aload_n 2, 1) := by decide +kernel
theorem nd_L_law_138 : decode code 138 = .ok (.aload_n 0, 1) := by decide +kernel
theorem nd_L_law_139 : decode code 139 = .ok (.iload 4, 2) := by decide +kernel
theorem nd_L_law_141 : decode code 141 = .ok (.iconst 1, 1) := by decide +kernel
theorem nd_L_law_142 : decode code 142 = .ok (.iadd, 1) := by decide +kernel
theorem nd_L_law_143 : decode code 143 = .ok (.iaload, 1) := by decide +kernel
theorem nd_L_law_144 : decode code 144 = .ok (.invokevirtual 66, 3) := by decide +kernel
theorem nd_L_law_147 : decode code 147 = .ok (.istore 6, 2) := by decide +kernel
theorem nd_L_law_149 : decode code 149 = .ok (.goto 552, 3) := by decide +kernel
theorem nd_L_law_152 : decode code 152 = .ok (.aload_n 1, 1) := by decide +kernel
theorem nd_L_law_153 : decode code 153 = .ok (.aload_n 0, 1) := by decide +kernel
theorem nd_L_law_154 : decode code 154 = .ok (.iload 4, 2) := by decide +kernel
theorem nd_L_law_156 : decode code 156 = .ok (.iconst 1, 1) := by decide +kernel
theorem nd_L_law_157 : decode code 157 = .ok (.iadd, 1) := by decide +kernel
theorem nd_L_law_158 : decode code 158 = .ok (.iaload, 1) := by decide +kernel
theorem nd_L_law_159 : decode code 159 = .ok (.invokestatic 67, 3) := by decide +kernel
theorem nd_L_law_162 : decode code 162 = .ok (.istore 5, 2) := by decide +kernel
theorem nd_L_law_164 : decode code 164 = .ok (.aload_n 2, 1) := by decide +kernel
theorem nd_L_law_165 : decode code 165 = .ok (.aload_n 0, 1) := by decide +kernel
theorem nd_L_law_166 : decode code 166 = .ok (.iload 4, 2) := by decide +kernel
theorem nd_L_law_168 : decode code 168 = .ok (.iconst 1, 1) := by decide +kernel
theorem nd_L_law_169 : decode code 169 = .ok (.iadd, 1) := by decide +kernel
theorem nd_L_law_170 : decode code 170 = .ok (.iaload, 1) := by decide +kernel
theorem nd_L_law_171 : decode code 171 = .ok (.invokevirtual 70, 3) := by decide +kernel
theorem nd_L_law_174 : decode code 174 = .ok (.goto 527, 3) := by decide +kernel
theorem nd_L_law_177 : decode code 177 = .ok (.aload_n 1, 1) := by decide +kernel
theorem nd_L_law_178 : decode code 178 = .ok (.aload_n 0, 1) := by decide +kernel
theorem nd_L_law_179 : decode code 179 = .ok (.iload 4, 2) := by decide +kernel
theorem nd_L_law_181 : decode code 181 = .ok (.iconst 1, 1) := by decide +kernel
theorem nd_L_law_182 : decode code 182 = .ok (.iadd, 1) := by decide +kernel
theorem nd_L_law_183 : decode code 183 = .ok (.iaload, 1) := by decide +kernel
theorem nd_L_law_184 : decode code 184 = .ok (.aload_n 3, 1) := by decide +kernel
theorem nd_L_law_185 : decode code 185 = .ok (.invokestatic 71, 3) := by decide +kernel
theorem nd_L_law_188 : decode code 188 = .ok (.istore 5, 2) := by decide +kernel
theorem nd_L_law_190 : decode code 190 = .ok (.aload_n 2, 1) := by decide +kernel
theorem nd_L_law_191 : decode code 191 = .ok (.aload_n 0, 1) := by decide +kernel
theorem nd_L_law_192 : decode code 192 = .ok (.iload 4, 2) := by decide +kernel
theorem nd_L_law_194 : decode code 194 = .ok (.iconst 1, 1) := by decide +kernel
theorem nd_L_law_195 : decode code 195 = .ok (.iadd, 1) := by decide +kernel
theorem nd_L_law_196 : decode code 196 = .ok (.iaload, 1) := by decide +kernel
theorem nd_L_law_197 : decode code 197 = .ok (.invokevirtual 73, 3) := by decide +kernel
theorem nd_L_law_200 : decode code 200 = .ok (.istore 6, 2) := by decide +kernel
theorem nd_L_law_202 : decode code 202 = .ok (.goto 499, 3) := by decide +kernel
theorem nd_L_law_205 : decode code 205 = .ok (.aload_n 1, 1) := by decide +kernel
theorem nd_L_law_206 : decode code 206 = .ok (.aload_n 0, 1) := by decide +kernel
theorem nd_L_law_207 : decode code 207 = .ok (.iload 4, 2) := by decide +kernel
theorem nd_L_law_209 : decode code 209 = .ok (.iconst 1, 1) := by decide +kernel
theorem nd_L_law_210 : decode code 210 = .ok (.iadd, 1) := by decide +kernel
theorem nd_L_law_211 : decode code 211 = .ok (.iaload, 1) := by decide +kernel
theorem nd_L_law_212 : decode code 212 = .ok (.aload_n 3, 1) := by decide +kernel
theorem nd_L_law_213 : decode code 213 = .ok (.invokestatic 74, 3) := by decide +kernel
theorem nd_L_law_216 : decode code 216 = .ok (.istore 5, 2) := by decide +kernel
theorem nd_L_law_218 : decode code 218 = .ok (.aload_n 2, 1) := by decide +kernel
theorem nd_L_law_219 : decode code 219 = .ok (.aload_n 0, 1) := by decide +kernel
theorem nd_L_law_220 : decode code 220 = .ok (.iload 4, 2) := by decide +kernel
theorem nd_L_law_222 : decode code 222 = .ok (.iconst 1, 1) := by decide +kernel
theorem nd_L_law_223 : decode code 223 = .ok (.iadd, 1) := by decide +kernel
theorem nd_L_law_224 : decode code 224 = .ok (.iaload, 1) := by decide +kernel
theorem nd_L_law_225 : decode code 225 = .ok (.invokevirtual 76, 3) := by decide +kernel
theorem nd_L_law_228 : decode code 228 = .ok (.istore 6, 2) := by decide +kernel
theorem nd_L_law_230 : decode code 230 = .ok (.goto 471, 3) := by decide +kernel
theorem nd_L_law_233 : decode code 233 = .ok (.aload_n 1, 1) := by decide +kernel
theorem nd_L_law_234 : decode code 234 = .ok (.aload_n 3, 1) := by decide +kernel
theorem nd_L_law_235 : decode code 235 = .ok (.invokestatic 77, 3) := by decide +kernel
theorem nd_L_law_238 : decode code 238 = .ok (.istore 5, 2) := by decide +kernel
theorem nd_L_law_240 : decode code 240 = .ok (.aload_n 2, 1) := by decide +kernel
theorem nd_L_law_241 : decode code 241 = .ok (.invokevirtual 80, 3) := by decide +kernel
theorem nd_L_law_244 : decode code 244 = .ok (.istore 6, 2) := by decide +kernel
theorem nd_L_law_246 : decode code 246 = .ok (.goto 455, 3) := by decide +kernel
theorem nd_L_law_249 : decode code 249 = .ok (.aload_n 1, 1) := by decide +kernel
theorem nd_L_law_250 : decode code 250 = .ok (.aload_n 0, 1) := by decide +kernel
theorem nd_L_law_251 : decode code 251 = .ok (.iload 4, 2) := by decide +kernel
theorem nd_L_law_253 : decode code 253 = .ok (.iconst 1, 1) := by decide +kernel
theorem nd_L_law_254 : decode code 254 = .ok (.iadd, 1) := by decide +kernel
theorem nd_L_law_255 : decode code 255 = .ok (.iaload, 1) := by decide +kernel
theorem nd_L_law_256 : decode code 256 = .ok (.aload_n 3, 1) := by decide +kernel
theorem nd_L_law_257 : decode code 257 = .ok (.invokestatic 81, 3) := by decide +kernel
theorem nd_L_law_260 : decode code 260 = .ok (.istore 5, 2) := by decide +kernel
theorem nd_L_law_262 : decode code 262 = .ok (.aload_n 2, 1) := by decide +kernel
theorem nd_L_law_263 : decode code 263 = .ok (.aload_n 0, 1) := by decide +kernel
theorem nd_L_law_264 : decode code 264 = .ok (.iload 4, 2) := by decide +kernel
theorem nd_L_law_266 : decode code 266 = .ok (.iconst 1, 1) := by decide +kernel
theorem nd_L_law_267 : decode code 267 = .ok (.iadd, 1) := by decide +kernel
theorem nd_L_law_268 : decode code 268 = .ok (.iaload, 1) := by decide +kernel
theorem nd_L_law_269 : decode code 269 = .ok (.invokevirtual 83, 3) := by decide +kernel
theorem nd_L_law_272 : decode code 272 = .ok (.istore 6, 2) := by decide +kernel
theorem nd_L_law_274 : decode code 274 = .ok (.goto 427, 3) := by decide +kernel
theorem nd_L_law_277 : decode code 277 = .ok (.aload_n 1, 1) := by decide +kernel
theorem nd_L_law_278 : decode code 278 = .ok (.aload_n 0, 1) := by decide +kernel
theorem nd_L_law_279 : decode code 279 = .ok (.iload 4, 2) := by decide +kernel
theorem nd_L_law_281 : decode code 281 = .ok (.iconst 1, 1) := by decide +kernel
theorem nd_L_law_282 : decode code 282 = .ok (.iadd, 1) := by decide +kernel
theorem nd_L_law_283 : decode code 283 = .ok (.iaload, 1) := by decide +kernel
theorem nd_L_law_284 : decode code 284 = .ok (.aload_n 0, 1) := by decide +kernel
theorem nd_L_law_285 : decode code 285 = .ok (.iload 4, 2) := by decide +kernel
theorem nd_L_law_287 : decode code 287 = .ok (.iconst 2, 1) := by decide +kernel
theorem nd_L_law_288 : decode code 288 = .ok (.iadd, 1) := by decide +kernel
theorem nd_L_law_289 : decode code 289 = .ok (.iaload, 1) := by decide +kernel
theorem nd_L_law_290 : decode code 290 = .ok (.aload_n 0, 1) := by decide +kernel
theorem nd_L_law_291 : decode code 291 = .ok (.iload 4, 2) := by decide +kernel
theorem nd_L_law_293 : decode code 293 = .ok (.iconst 3, 1) := by decide +kernel
theorem nd_L_law_294 : decode code 294 = .ok (.iadd, 1) := by decide +kernel
theorem nd_L_law_295 : decode code 295 = .ok (.iaload, 1) := by decide +kernel
theorem nd_L_law_296 : decode code 296 = .ok (.invokestatic 84, 3) := by decide +kernel
theorem nd_L_law_299 : decode code 299 = .ok (.istore 5, 2) := by decide +kernel
theorem nd_L_law_301 : decode code 301 = .ok (.aload_n 2, 1) := by decide +kernel
theorem nd_L_law_302 : decode code 302 = .ok (.aload_n 0, 1) := by decide +kernel
theorem nd_L_law_303 : decode code 303 = .ok (.iload 4, 2) := by decide +kernel
theorem nd_L_law_305 : decode code 305 = .ok (.iconst 1, 1) := by decide +kernel
theorem nd_L_law_306 : decode code 306 = .ok (.iadd, 1) := by decide +kernel
theorem nd_L_law_307 : decode code 307 = .ok (.iaload, 1) := by decide +kernel
theorem nd_L_law_308 : decode code 308 = .ok (.aload_n 0, 1) := by decide +kernel
theorem nd_L_law_309 : decode code 309 = .ok (.iload 4, 2) := by decide +kernel
theorem nd_L_law_311 : decode code 311 = .ok (.iconst 2, 1) := by decide +kernel
theorem nd_L_law_312 : decode code 312 = .ok (.iadd, 1) := by decide +kernel
theorem nd_L_law_313 : decode code 313 = .ok (.iaload, 1) := by decide +kernel
theorem nd_L_law_314 : decode code 314 = .ok (.aload_n 0, 1) := by decide +kernel
theorem nd_L_law_315 : decode code 315 = .ok (.iload 4, 2) := by decide +kernel
theorem nd_L_law_317 : decode code 317 = .ok (.iconst 3, 1) := by decide +kernel
theorem nd_L_law_318 : decode code 318 = .ok (.iadd, 1) := by decide +kernel
theorem nd_L_law_319 : decode code 319 = .ok (.iaload, 1) := by decide +kernel
theorem nd_L_law_320 : decode code 320 = .ok (.invokevirtual 87, 3) := by decide +kernel
theorem nd_L_law_323 : decode code 323 = .ok (.goto 378, 3) := by decide +kernel
theorem nd_L_law_326 : decode code 326 = .ok (.aload_n 1, 1) := by decide +kernel
theorem nd_L_law_327 : decode code 327 = .ok (.aload_n 0, 1) := by decide +kernel
theorem nd_L_law_328 : decode code 328 = .ok (.iload 4, 2) := by decide +kernel
theorem nd_L_law_330 : decode code 330 = .ok (.iconst 1, 1) := by decide +kernel
theorem nd_L_law_331 : decode code 331 = .ok (.iadd, 1) := by decide +kernel
theorem nd_L_law_332 : decode code 332 = .ok (.iaload, 1) := by decide +kernel
theorem nd_L_law_333 : decode code 333 = .ok (.aload_n 0, 1) := by decide +kernel
theorem nd_L_law_334 : decode code 334 = .ok (.iload 4, 2) := by decide +kernel
theorem nd_L_law_336 : decode code 336 = .ok (.iconst 2, 1) := by decide +kernel
theorem nd_L_law_337 : decode code 337 = .ok (.iadd, 1) := by decide +kernel
theorem nd_L_law_338 : decode code 338 = .ok (.iaload, 1) := by decide +kernel
theorem nd_L_law_339 : decode code 339 = .ok (.aload_n 0, 1) := by decide +kernel
theorem nd_L_law_340 : decode code 340 = .ok (.iload 4, 2) := by decide +kernel
theorem nd_L_law_342 : decode code 342 = .ok (.iconst 3, 1) := by decide +kernel
theorem nd_L_law_343 : decode code 343 = .ok (.iadd, 1) := by decide +kernel
theorem nd_L_law_344 : decode code 344 = .ok (.iaload, 1) := by decide +kernel
theorem nd_L_law_345 : decode code 345 = .ok (.aload_n 3, 1) := by decide +kernel
theorem nd_L_law_346 : decode code 346 = .ok (.invokestatic 88, 3) := by decide +kernel
theorem nd_L_law_349 : decode code 349 = .ok (.istore 5, 2) := by decide +kernel
theorem nd_L_law_351 : decode code 351 = .ok (.aload_n 2, 1) := by decide +kernel
theorem nd_L_law_352 : decode code 352 = .ok (.aload_n 0, 1) := by decide +kernel
theorem nd_L_law_353 : decode code 353 = .ok (.iload 4, 2) := by decide +kernel
theorem nd_L_law_355 : decode code 355 = .ok (.iconst 1, 1) := by decide +kernel
theorem nd_L_law_356 : decode code 356 = .ok (.iadd, 1) := by decide +kernel
theorem nd_L_law_357 : decode code 357 = .ok (.iaload, 1) := by decide +kernel
theorem nd_L_law_358 : decode code 358 = .ok (.aload_n 0, 1) := by decide +kernel
theorem nd_L_law_359 : decode code 359 = .ok (.iload 4, 2) := by decide +kernel
theorem nd_L_law_361 : decode code 361 = .ok (.iconst 2, 1) := by decide +kernel
theorem nd_L_law_362 : decode code 362 = .ok (.iadd, 1) := by decide +kernel
theorem nd_L_law_363 : decode code 363 = .ok (.iaload, 1) := by decide +kernel
theorem nd_L_law_364 : decode code 364 = .ok (.aload_n 0, 1) := by decide +kernel
theorem nd_L_law_365 : decode code 365 = .ok (.iload 4, 2) := by decide +kernel
theorem nd_L_law_367 : decode code 367 = .ok (.iconst 3, 1) := by decide +kernel
theorem nd_L_law_368 : decode code 368 = .ok (.iadd, 1) := by decide +kernel
theorem nd_L_law_369 : decode code 369 = .ok (.iaload, 1) := by decide +kernel
theorem nd_L_law_370 : decode code 370 = .ok (.invokevirtual 91, 3) := by decide +kernel
theorem nd_L_law_373 : decode code 373 = .ok (.istore 6, 2) := by decide +kernel
theorem nd_L_law_375 : decode code 375 = .ok (.goto 326, 3) := by decide +kernel
theorem nd_L_law_378 : decode code 378 = .ok (.aload_n 1, 1) := by decide +kernel
theorem nd_L_law_379 : decode code 379 = .ok (.aload_n 0, 1) := by decide +kernel
theorem nd_L_law_380 : decode code 380 = .ok (.iload 4, 2) := by decide +kernel
theorem nd_L_law_382 : decode code 382 = .ok (.iconst 1, 1) := by decide +kernel
theorem nd_L_law_383 : decode code 383 = .ok (.iadd, 1) := by decide +kernel
theorem nd_L_law_384 : decode code 384 = .ok (.iaload, 1) := by decide +kernel
theorem nd_L_law_385 : decode code 385 = .ok (.aload_n 0, 1) := by decide +kernel
theorem nd_L_law_386 : decode code 386 = .ok (.iload 4, 2) := by decide +kernel
theorem nd_L_law_388 : decode code 388 = .ok (.iconst 2, 1) := by decide +kernel
theorem nd_L_law_389 : decode code 389 = .ok (.iadd, 1) := by decide +kernel
theorem nd_L_law_390 : decode code 390 = .ok (.iaload, 1) := by decide +kernel
theorem nd_L_law_391 : decode code 391 = .ok (.aload_n 3, 1) := by decide +kernel
theorem nd_L_law_392 : decode code 392 = .ok (.invokestatic 92, 3) := by decide +kernel
theorem nd_L_law_395 : decode code 395 = .ok (.istore 5, 2) := by decide +kernel
theorem nd_L_law_397 : decode code 397 = .ok (.aload_n 2, 1) := by decide +kernel
theorem nd_L_law_398 : decode code 398 = .ok (.aload_n 0, 1) := by decide +kernel
theorem nd_L_law_399 : decode code 399 = .ok (.iload 4, 2) := by decide +kernel
theorem nd_L_law_401 : decode code 401 = .ok (.iconst 1, 1) := by decide +kernel
theorem nd_L_law_402 : decode code 402 = .ok (.iadd, 1) := by decide +kernel
theorem nd_L_law_403 : decode code 403 = .ok (.iaload, 1) := by decide +kernel
theorem nd_L_law_404 : decode code 404 = .ok (.aload_n 0, 1) := by decide +kernel
theorem nd_L_law_405 : decode code 405 = .ok (.iload 4, 2) := by decide +kernel
theorem nd_L_law_407 : decode code 407 = .ok (.iconst 2, 1) := by decide +kernel
theorem nd_L_law_408 : decode code 408 = .ok (.iadd, 1) := by decide +kernel
theorem nd_L_law_409 : decode code 409 = .ok (.iaload, 1) := by decide +kernel
theorem nd_L_law_410 : decode code 410 = .ok (.invokevirtual 95, 3) := by decide +kernel
theorem nd_L_law_413 : decode code 413 = .ok (.istore 6, 2) := by decide +kernel
theorem nd_L_law_415 : decode code 415 = .ok (.goto 286, 3) := by decide +kernel
theorem nd_L_law_418 : decode code 418 = .ok (.aload_n 1, 1) := by decide +kernel
theorem nd_L_law_419 : decode code 419 = .ok (.aload_n 0, 1) := by decide +kernel
theorem nd_L_law_420 : decode code 420 = .ok (.iload 4, 2) := by decide +kernel
theorem nd_L_law_422 : decode code 422 = .ok (.iconst 1, 1) := by decide +kernel
theorem nd_L_law_423 : decode code 423 = .ok (.iadd, 1) := by decide +kernel
theorem nd_L_law_424 : decode code 424 = .ok (.iaload, 1) := by decide +kernel
theorem nd_L_law_425 : decode code 425 = .ok (.aload_n 0, 1) := by decide +kernel
theorem nd_L_law_426 : decode code 426 = .ok (.iload 4, 2) := by decide +kernel
theorem nd_L_law_428 : decode code 428 = .ok (.iconst 2, 1) := by decide +kernel
theorem nd_L_law_429 : decode code 429 = .ok (.iadd, 1) := by decide +kernel
theorem nd_L_law_430 : decode code 430 = .ok (.iaload, 1) := by decide +kernel
theorem nd_L_law_431 : decode code 431 = .ok (.aload_n 0, 1) := by decide +kernel
theorem nd_L_law_432 : decode code 432 = .ok (.iload 4, 2) := by decide +kernel
theorem nd_L_law_434 : decode code 434 = .ok (.iconst 3, 1) := by decide +kernel
theorem nd_L_law_435 : decode code 435 = .ok (.iadd, 1) := by decide +kernel
theorem nd_L_law_436 : decode code 436 = .ok (.iaload, 1) := by decide +kernel
theorem nd_L_law_437 : decode code 437 = .ok (.invokestatic 96, 3) := by decide +kernel
theorem nd_L_law_440 : decode code 440 = .ok (.istore 5, 2) := by decide +kernel
theorem nd_L_law_442 : decode code 442 = .ok (.aload_n 2, 1) := by decide +kernel
theorem nd_L_law_443 : decode code 443 = .ok (.aload_n 0, 1) := by decide +kernel
theorem nd_L_law_444 : decode code 444 = .ok (.iload 4, 2) := by decide +kernel
theorem nd_L_law_446 : decode code 446 = .ok (.iconst 1, 1) := by decide +kernel
theorem nd_L_law_447 : decode code 447 = .ok (.iadd, 1) := by decide +kernel
theorem nd_L_law_448 : decode code 448 = .ok (.iaload, 1) := by decide +kernel
theorem nd_L_law_449 : decode code 449 = .ok (.aload_n 0, 1) := by decide +kernel
theorem nd_L_law_450 : decode code 450 = .ok (.iload 4, 2) := by decide +kernel
theorem nd_L_law_452 : decode code 452 = .ok (.iconst 2, 1) := by decide +kernel
theorem nd_L_law_453 : decode code 453 = .ok (.iadd, 1) := by decide +kernel
theorem nd_L_law_454 : decode code 454 = .ok (.iaload, 1) := by decide +kernel
theorem nd_L_law_455 : decode code 455 = .ok (.aload_n 0, 1) := by decide +kernel
theorem nd_L_law_456 : decode code 456 = .ok (.iload 4, 2) := by decide +kernel
theorem nd_L_law_458 : decode code 458 = .ok (.iconst 3, 1) := by decide +kernel
theorem nd_L_law_459 : decode code 459 = .ok (.iadd, 1) := by decide +kernel
theorem nd_L_law_460 : decode code 460 = .ok (.iaload, 1) := by decide +kernel
theorem nd_L_law_461 : decode code 461 = .ok (.invokevirtual 98, 3) := by decide +kernel
theorem nd_L_law_464 : decode code 464 = .ok (.goto 237, 3) := by decide +kernel
theorem nd_L_law_467 : decode code 467 = .ok (.aload_n 1, 1) := by decide +kernel
theorem nd_L_law_468 : decode code 468 = .ok (.aload_n 0, 1) := by decide +kernel
theorem nd_L_law_469 : decode code 469 = .ok (.iload 4, 2) := by decide +kernel
theorem nd_L_law_471 : decode code 471 = .ok (.iconst 1, 1) := by decide +kernel
theorem nd_L_law_472 : decode code 472 = .ok (.iadd, 1) := by decide +kernel
theorem nd_L_law_473 : decode code 473 = .ok (.iaload, 1) := by decide +kernel
theorem nd_L_law_474 : decode code 474 = .ok (.aload_n 3, 1) := by decide +kernel
theorem nd_L_law_475 : decode code 475 = .ok (.invokestatic 99, 3) := by decide +kernel
theorem nd_L_law_478 : decode code 478 = .ok (.istore 5, 2) := by decide +kernel
theorem nd_L_law_480 : decode code 480 = .ok (.aload_n 2, 1) := by decide +kernel
theorem nd_L_law_481 : decode code 481 = .ok (.aload_n 0, 1) := by decide +kernel
theorem nd_L_law_482 : decode code 482 = .ok (.iload 4, 2) := by decide +kernel
theorem nd_L_law_484 : decode code 484 = .ok (.iconst 1, 1) := by decide +kernel
theorem nd_L_law_485 : decode code 485 = .ok (.iadd, 1) := by decide +kernel
theorem nd_L_law_486 : decode code 486 = .ok (.iaload, 1) := by decide +kernel
theorem nd_L_law_487 : decode code 487 = .ok (.invokevirtual 101, 3) := by decide +kernel
theorem nd_L_law_490 : decode code 490 = .ok (.istore 6, 2) := by decide +kernel
theorem nd_L_law_492 : decode code 492 = .ok (.goto 209, 3) := by decide +kernel
theorem nd_L_law_495 : decode code 495 = .ok (.aload_n 1, 1) := by decide +kernel
theorem nd_L_law_496 : decode code 496 = .ok (.aload_n 0, 1) := by decide +kernel
theorem nd_L_law_497 : decode code 497 = .ok (.iload 4, 2) := by decide +kernel
theorem nd_L_law_499 : decode code 499 = .ok (.iconst 1, 1) := by decide +kernel
theorem nd_L_law_500 : decode code 500 = .ok (.iadd, 1) := by decide +kernel
theorem nd_L_law_501 : decode code 501 = .ok (.iaload, 1) := by decide +kernel
theorem nd_L_law_502 : decode code 502 = .ok (.aload_n 3, 1) := by decide +kernel
theorem nd_L_law_503 : decode code 503 = .ok (.invokestatic 102, 3) := by decide +kernel
theorem nd_L_law_506 : decode code 506 = .ok (.istore 5, 2) := by decide +kernel
theorem nd_L_law_508 : decode code 508 = .ok (.aload_n 2, 1) := by decide +kernel
theorem nd_L_law_509 : decode code 509 = .ok (.aload_n 0, 1) := by decide +kernel
theorem nd_L_law_510 : decode code 510 = .ok (.iload 4, 2) := by decide +kernel
theorem nd_L_law_512 : decode code 512 = .ok (.iconst 1, 1) := by decide +kernel
theorem nd_L_law_513 : decode code 513 = .ok (.iadd, 1) := by decide +kernel
theorem nd_L_law_514 : decode code 514 = .ok (.iaload, 1) := by decide +kernel
theorem nd_L_law_515 : decode code 515 = .ok (.invokevirtual 104, 3) := by decide +kernel
theorem nd_L_law_518 : decode code 518 = .ok (.istore 6, 2) := by decide +kernel
theorem nd_L_law_520 : decode code 520 = .ok (.aload_n 2, 1) := by decide +kernel
theorem nd_L_law_521 : decode code 521 = .ok (.invokevirtual 105, 3) := by decide +kernel
theorem nd_L_law_524 : decode code 524 = .ok (.iload 5, 2) := by decide +kernel
theorem nd_L_law_526 : decode code 526 = .ok (.if_icmp .eq 5, 3) := by decide +kernel
theorem nd_L_law_529 : decode code 529 = .ok (.iconst 0, 1) := by decide +kernel
theorem nd_L_law_530 : decode code 530 = .ok (.ireturn, 1) := by decide +kernel
theorem nd_L_law_531 : decode code 531 = .ok (.iload 5, 2) := by decide +kernel
theorem nd_L_law_533 : decode code 533 = .ok (.ifCond .ne 15, 3) := by decide +kernel
theorem nd_L_law_536 : decode code 536 = .ok (.aload_n 3, 1) := by decide +kernel
theorem nd_L_law_537 : decode code 537 = .ok (.iconst 0, 1) := by decide +kernel
theorem nd_L_law_538 : decode code 538 = .ok (.laload, 1) := by decide +kernel
theorem nd_L_law_539 : decode code 539 = .ok (.iload 6, 2) := by decide +kernel
theorem nd_L_law_541 : decode code 541 = .ok (.i2l, 1) := by decide +kernel
theorem nd_L_law_542 : decode code 542 = .ok (.lcmp, 1) := by decide +kernel
theorem nd_L_law_543 : decode code 543 = .ok (.ifCond .eq 5, 3) := by decide +kernel
theorem nd_L_law_546 : decode code 546 = .ok (.iconst 0, 1) := by decide +kernel
theorem nd_L_law_547 : decode code 547 = .ok (.ireturn, 1) := by decide +kernel
theorem nd_L_law_548 : decode code 548 = .ok (.goto 153, 3) := by decide +kernel
theorem nd_L_law_551 : decode code 551 = .ok (.aload_n 1, 1) := by decide +kernel
theorem nd_L_law_552 : decode code 552 = .ok (.aload_n 0, 1) := by decide +kernel
theorem nd_L_law_553 : decode code 553 = .ok (.iload 4, 2) := by decide +kernel
theorem nd_L_law_555 : decode code 555 = .ok (.iconst 1, 1) := by decide +kernel
theorem nd_L_law_556 : decode code 556 = .ok (.iadd, 1) := by decide +kernel
theorem nd_L_law_557 : decode code 557 = .ok (.iaload, 1) := by decide +kernel
theorem nd_L_law_558 : decode code 558 = .ok (.invokevirtual 108, 3) := by decide +kernel
theorem nd_L_law_561 : decode code 561 = .ok (.pop, 1) := by decide +kernel
theorem nd_L_law_562 : decode code 562 = .ok (.aload_n 2, 1) := by decide +kernel
theorem nd_L_law_563 : decode code 563 = .ok (.aload_n 0, 1) := by decide +kernel
theorem nd_L_law_564 : decode code 564 = .ok (.iload 4, 2) := by decide +kernel
theorem nd_L_law_566 : decode code 566 = .ok (.iconst 1, 1) := by decide +kernel
theorem nd_L_law_567 : decode code 567 = .ok (.iadd, 1) := by decide +kernel
theorem nd_L_law_568 : decode code 568 = .ok (.iaload, 1) := by decide +kernel
theorem nd_L_law_569 : decode code 569 = .ok (.invokevirtual 111, 3) := by decide +kernel
theorem nd_L_law_572 : decode code 572 = .ok (.pop, 1) := by decide +kernel
theorem nd_L_law_573 : decode code 573 = .ok (.goto 128, 3) := by decide +kernel
theorem nd_L_law_576 : decode code 576 = .ok (.aload_n 1, 1) := by decide +kernel
theorem nd_L_law_577 : decode code 577 = .ok (.aload_n 0, 1) := by decide +kernel
theorem nd_L_law_578 : decode code 578 = .ok (.iload 4, 2) := by decide +kernel
theorem nd_L_law_580 : decode code 580 = .ok (.iconst 1, 1) := by decide +kernel
theorem nd_L_law_581 : decode code 581 = .ok (.iadd, 1) := by decide +kernel
theorem nd_L_law_582 : decode code 582 = .ok (.iaload, 1) := by decide +kernel
theorem nd_L_law_583 : decode code 583 = .ok (.aload_n 0, 1) := by decide +kernel
theorem nd_L_law_584 : decode code 584 = .ok (.iload 4, 2) := by decide +kernel
theorem nd_L_law_586 : decode code 586 = .ok (.iconst 2, 1) := by decide +kernel
theorem nd_L_law_587 : decode code 587 = .ok (.iadd, 1) := by decide +kernel
theorem nd_L_law_588 : decode code 588 = .ok (.iaload, 1) := by decide +kernel
theorem nd_L_law_589 : decode code 589 = .ok (.invokevirtual 112, 3) := by decide +kernel
theorem nd_L_law_592 : decode code 592 = .ok (.pop, 1) := by decide +kernel
theorem nd_L_law_593 : decode code 593 = .ok (.aload_n 2, 1) := by decide +kernel
theorem nd_L_law_594 : decode code 594 = .ok (.aload_n 0, 1) := by decide +kernel
theorem nd_L_law_595 : decode code 595 = .ok (.iload 4, 2) := by decide +kernel
theorem nd_L_law_597 : decode code 597 = .ok (.iconst 1, 1) := by decide +kernel
theorem nd_L_law_598 : decode code 598 = .ok (.iadd, 1) := by decide +kernel
theorem nd_L_law_599 : decode code 599 = .ok (.iaload, 1) := by decide +kernel
theorem nd_L_law_600 : decode code 600 = .ok (.aload_n 0, 1) := by decide +kernel
theorem nd_L_law_601 : decode code 601 = .ok (.iload 4, 2) := by decide +kernel
theorem nd_L_law_603 : decode code 603 = .ok (.iconst 2, 1) := by decide +kernel
theorem nd_L_law_604 : decode code 604 = .ok (.iadd, 1) := by decide +kernel
theorem nd_L_law_605 : decode code 605 = .ok (.iaload, 1) := by decide +kernel
theorem nd_L_law_606 : decode code 606 = .ok (.invokevirtual 115, 3) := by decide +kernel
theorem nd_L_law_609 : decode code 609 = .ok (.pop, 1) := by decide +kernel
theorem nd_L_law_610 : decode code 610 = .ok (.goto 91, 3) := by decide +kernel
theorem nd_L_law_613 : decode code 613 = .ok (.aload_n 1, 1) := by decide +kernel
theorem nd_L_law_614 : decode code 614 = .ok (.aload_n 0, 1) := by decide +kernel
theorem nd_L_law_615 : decode code 615 = .ok (.iload 4, 2) := by decide +kernel
theorem nd_L_law_617 : decode code 617 = .ok (.iconst 1, 1) := by decide +kernel
theorem nd_L_law_618 : decode code 618 = .ok (.iadd, 1) := by decide +kernel
theorem nd_L_law_619 : decode code 619 = .ok (.iaload, 1) := by decide +kernel
theorem nd_L_law_620 : decode code 620 = .ok (.aload_n 0, 1) := by decide +kernel
theorem nd_L_law_621 : decode code 621 = .ok (.iload 4, 2) := by decide +kernel
theorem nd_L_law_623 : decode code 623 = .ok (.iconst 2, 1) := by decide +kernel
theorem nd_L_law_624 : decode code 624 = .ok (.iadd, 1) := by decide +kernel
theorem nd_L_law_625 : decode code 625 = .ok (.iaload, 1) := by decide +kernel
theorem nd_L_law_626 : decode code 626 = .ok (.invokevirtual 116, 3) := by decide +kernel
theorem nd_L_law_629 : decode code 629 = .ok (.pop, 1) := by decide +kernel
theorem nd_L_law_630 : decode code 630 = .ok (.aload_n 2, 1) := by decide +kernel
theorem nd_L_law_631 : decode code 631 = .ok (.aload_n 0, 1) := by decide +kernel
theorem nd_L_law_632 : decode code 632 = .ok (.iload 4, 2) := by decide +kernel
theorem nd_L_law_634 : decode code 634 = .ok (.iconst 1, 1) := by decide +kernel
theorem nd_L_law_635 : decode code 635 = .ok (.iadd, 1) := by decide +kernel
theorem nd_L_law_636 : decode code 636 = .ok (.iaload, 1) := by decide +kernel
theorem nd_L_law_637 : decode code 637 = .ok (.aload_n 0, 1) := by decide +kernel
theorem nd_L_law_638 : decode code 638 = .ok (.iload 4, 2) := by decide +kernel
theorem nd_L_law_640 : decode code 640 = .ok (.iconst 2, 1) := by decide +kernel
theorem nd_L_law_641 : decode code 641 = .ok (.iadd, 1) := by decide +kernel
theorem nd_L_law_642 : decode code 642 = .ok (.iaload, 1) := by decide +kernel
theorem nd_L_law_643 : decode code 643 = .ok (.invokevirtual 119, 3) := by decide +kernel
theorem nd_L_law_646 : decode code 646 = .ok (.pop, 1) := by decide +kernel
theorem nd_L_law_647 : decode code 647 = .ok (.goto 54, 3) := by decide +kernel
theorem nd_L_law_650 : decode code 650 = .ok (.aload_n 1, 1) := by decide +kernel
theorem nd_L_law_651 : decode code 651 = .ok (.aload_n 0, 1) := by decide +kernel
theorem nd_L_law_652 : decode code 652 = .ok (.iload 4, 2) := by decide +kernel
theorem nd_L_law_654 : decode code 654 = .ok (.iconst 1, 1) := by decide +kernel
theorem nd_L_law_655 : decode code 655 = .ok (.iadd, 1) := by decide +kernel
theorem nd_L_law_656 : decode code 656 = .ok (.iaload, 1) := by decide +kernel
theorem nd_L_law_657 : decode code 657 = .ok (.invokevirtual 120, 3) := by decide +kernel
theorem nd_L_law_660 : decode code 660 = .ok (.pop, 1) := by decide +kernel
theorem nd_L_law_661 : decode code 661 = .ok (.aload_n 2, 1) := by decide +kernel
theorem nd_L_law_662 : decode code 662 = .ok (.aload_n 0, 1) := by decide +kernel
theorem nd_L_law_663 : decode code 663 = .ok (.iload 4, 2) := by decide +kernel
theorem nd_L_law_665 : decode code 665 = .ok (.iconst 1, 1) := by decide +kernel
theorem nd_L_law_666 : decode code 666 = .ok (.iadd, 1) := by decide +kernel
theorem nd_L_law_667 : decode code 667 = .ok (.iaload, 1) := by decide +kernel
theorem nd_L_law_668 : decode code 668 = .ok (.invokevirtual 123, 3) := by decide +kernel
theorem nd_L_law_671 : decode code 671 = .ok (.pop, 1) := by decide +kernel
theorem nd_L_law_672 : decode code 672 = .ok (.goto 29, 3) := by decide +kernel
theorem nd_L_law_675 : decode code 675 = .ok (.aload_n 1, 1) := by decide +kernel
theorem nd_L_law_676 : decode code 676 = .ok (.invokevirtual 124, 3) := by decide +kernel
theorem nd_L_law_679 : decode code 679 = .ok (.pop, 1) := by decide +kernel
theorem nd_L_law_680 : decode code 680 = .ok (.aload_n 2, 1) := by decide +kernel
theorem nd_L_law_681 : decode code 681 = .ok (.invokevirtual 127, 3) := by decide +kernel
theorem nd_L_law_684 : decode code 684 = .ok (.pop, 1) := by decide +kernel
theorem nd_L_law_685 : decode code 685 = .ok (.goto 16, 3) := by decide +kernel
theorem nd_L_law_688 : decode code 688 = .ok (.aload_n 1, 1) := by decide +kernel
theorem nd_L_law_689 : decode code 689 = .ok (.invokevirtual 128, 3) := by decide +kernel
theorem nd_L_law_692 : decode code 692 = .ok (.pop, 1) := by decide +kernel
theorem nd_L_law_693 : decode code 693 = .ok (.aload_n 2, 1) := by decide +kernel
theorem nd_L_law_694 : decode code 694 = .ok (.invokevirtual 131, 3) := by decide +kernel
theorem nd_L_law_697 : decode code 697 = .ok (.pop, 1) := by decide +kernel
theorem nd_L_law_698 : decode code 698 = .ok (.goto 3, 3) := by decide +kernel
theorem nd_L_law_701 : decode code 701 = .ok (.iinc 4 4, 3) := by decide +kernel
theorem nd_L_law_704 : decode code 704 = .ok (.goto (-681), 3) := by decide +kernel
theorem nd_L_law_707 : decode code 707 = .ok (.iconst 1, 1) := by decide +kernel
theorem nd_L_law_708 : decode code 708 = .ok (.ireturn, 1) := by decide +kernel
/-! THE CLAIM OUT OF ONE WALK OF THE LAW'S BODY. Your part is whole_start (and what it stands on); all else here is the same for every law, but numbers. -/
def R_law : String := "MovedFramesLaw"
def lw_P (b : Addr) (xs : List Int32) (args : Array Value) (s : State) : Prop := args = #[.ref b] ∧ s.IntsAt b xs ∧ xs.length ≤ 2048 ∧ (Jvm.Cond.and given_1 narrow_1).before args s = true
def lw_Q (_ : Array Value) (s : State) (o : Outcome) (t : State) : Prop := o = .returned (some (.int 1)) ∧ Framed s o t [] 1062 13228
def lw_Z (below : List Frame) (a : Array Value) (s : State) : State → Prop := fun t => ∃ o, t.status = .running ∧ Ended t below o ∧ lw_Q a s o t
/-- the law's own end, with 1 on the stack, nothing written that was there before, its room as the claim has it -/
theorem lw_ret {p : Program} {l : Launch} {e : Env} {s : State} {m : MethodId} {below : List Frame} {meth : Method} {c : Code} {b : Nat} (hx : p.tables.exec = Jvm.exec) (hb : c.code = code) (hr : meth.sig.returnType = ret) (hlocks : meth.locks = false) {pc : Nat} {H : Heap} {ls : Array Slot} (hdg : decode code pc = .ok (.ireturn, 1)) : W p l e room_1 s m #[Value.ref b] below meth c H [] 1062 13228 (lw_Z below #[Value.ref b] s) (F0 m pc ls [.int 1]) := by
  intro T hT X
  obtain ⟨fs, hret, hrun, hended, hW, hframe⟩ := X.leave (v := some (.int 1)) (hlocks := hlocks) (fun h => by rw [hr] at h; cases h)
  have hmeth' : T.vm.method? m = some meth := X.method'
  refine ⟨T.setFrames fs, ?_, .returned (some (.int 1)), hrun, hended, rfl, ⟨_, rfl⟩, hW, hframe⟩
  jvm_step X.here [X.here.top, hx, hb, hdg, hmeth', hr, ret, narrow_b1]
  (try refine ⟨rfl, ?_⟩); (try refine ⟨rfl, ?_⟩)
  first | (intro acts; rw [hret _ acts rfl rfl rfl]) | rw [hret _ _ rfl rfl rfl]
  exact Steps.refl _
/-- what holds at the law's entry: the machine, the code, the tables' words (any of lw_tbl by 'hts w (by decide +kernel)'), the script of L ints xs at the cell b, what the Statement gives of the start (any of its parts by flat_of_before) -/
def lw_At (p : Program) (s : State) (m : MethodId) (meth : Method) (c : Code) (b L : Nat) (xs : Nat → Int32) : Prop :=
  p.tables.exec = Jvm.exec ∧ c.code = code ∧ meth.sig.returnType = ret ∧ c.maxLocals = 7 ∧ s.vm.findClass R_law = some m.cls ∧ (∀ w ∈ lw_tbl, w.before #[Value.ref b] s = true) ∧ va_X b L xs s s.heap ∧ b < s.heap.size ∧ meth.locks = false ∧ (Jvm.Cond.and given_1 narrow_1).before #[Value.ref b] s = true
def wl_ (q r : Nat → Nat) (qo : Nat) (cI cZ cJ : ClassId) (u : CS × (Nat → Int64) × MS) : va_W := wd_C q cI cZ u.1 ++ (wo_ qo cJ u.2.1 :: wd_M r cI cZ u.2.2)
abbrev ty3_ (cI cZ cJ : ClassId) : List (ClassId × FieldType) := [(cI, .int), (cZ, .boolean), (cJ, .long)]
section LC
variable {p : Program} {l : Launch} {e : Env} {R : Room} {s : State} {m : MethodId} {args : Array Value} {below : List Frame} {meth : Method} {c : Code} {H : Heap} {locs : List Loc} {cells slots mc ms : Nat} {Q : State → Prop}
variable {pc : Nat} {ls : Array Slot} {rest st0 : List Value} {D : va_G} {A : Nat → Prop} {a : Array Value} {q r : Nat → Nat} {qo : Nat} {cI cZ cJ : ClassId} {σ σ' : CS} {τ τ' : MS} {o o' : Nat → Int64} {v : Int32} {tys : List (ClassId × FieldType)}
/-- a helper's call -/
theorem lc_h (hr : va_Run p l e R s m args below meth c H locs cells slots mc ms (F0 m pc ls st0) rest (qi_ D (wh_ q qo cI cZ cJ) tys (va_A (wh_ q qo cI cZ cJ (σ, o)) H.size) v (σ', o') a) (va_A (wh_ q qo cI cZ cJ (σ, o)) H.size))
    (hP : va_P D vwCl (wl_ q r qo cI cZ cJ (σ, o, τ)) H) (hD : va_D A (wl_ q r qo cI cZ cJ (σ, o, τ))) (hS : va_S A s.heap H locs) (hA : ∀ q, s.heap.size ≤ q → A q)
    (kk : ∀ (H1 : Heap) (locs1 : List Loc), va_P D vwCl (wl_ q r qo cI cZ cJ (σ', o', τ)) H1 → va_D A (wl_ q r qo cI cZ cJ (σ', o', τ)) → va_S A s.heap H1 locs1 → W p l e R s m args below meth c H1 locs1 (cells + mc) (slots + ms) Q (F0 m (pc + 3) ls (.int v :: rest))) :
    W p l e R s m args below meth c H locs cells slots Q (F0 m pc ls st0) := by
  have hFc := va_free (wc := wh_ q qo cI cZ cJ (σ, o)) hD hS hA [0, 1, 2, 3, 4, 5, 6, 7, 8, 9, 10, 11, 12, 13, 14, 15, 16] rfl
  refine va_calli hr hS (fun q _ h => hFc q h) hFc (fun r9 u t H1 locs1 ht hvm hw hB hz1 hk1 hS1 => ?_)
  obtain ⟨hr9, hu⟩ := hw
  obtain ⟨hP1, hK1, hD1⟩ := hB
  rw [ht] at hP1
  rw [hu] at hP1 hD1
  rw [hr9]
  obtain ⟨hP, hD⟩ := va_join (wc := wh_ q qo cI cZ cJ (σ, o)) (wr := wd_M r cI cZ τ) (w1 := wh_ q qo cI cZ cJ (σ', o')) hP hD [0, 1, 2, 3, 4, 5, 6, 7, 8, 9, 10, 11, 12, 13, 14, 15, 16] [17, 18, 19, 20, 21, 22, 23, 24, 25, 26] rfl rfl (by decide) (by decide) hk1 hFc hP1 hD1
  exact kk H1 locs1 (hP.sub [10, 11, 12, 13, 14, 15, 16, 17, 18, 19, 20, 21, 22, 23, 24, 25, 26, 0, 1, 2, 3, 4, 5, 6, 7, 8, 9] rfl) (hD.sub [10, 11, 12, 13, 14, 15, 16, 17, 18, 19, 20, 21, 22, 23, 24, 25, 26, 0, 1, 2, 3, 4, 5, 6, 7, 8, 9] (by decide) rfl) hS1
/-- a call of the class itself -/
theorem lc_c (hr : va_Run p l e R s m args below meth c H locs cells slots mc ms (F0 m pc ls st0) rest (qi_ D (wd_C q cI cZ) tys (va_A (wd_C q cI cZ σ) H.size) v σ' a) (va_A (wd_C q cI cZ σ) H.size))
    (hP : va_P D vwCl (wl_ q r qo cI cZ cJ (σ, o, τ)) H) (hD : va_D A (wl_ q r qo cI cZ cJ (σ, o, τ))) (hS : va_S A s.heap H locs) (hA : ∀ q, s.heap.size ≤ q → A q)
    (kk : ∀ (H1 : Heap) (locs1 : List Loc), va_P D vwCl (wl_ q r qo cI cZ cJ (σ', o, τ)) H1 → va_D A (wl_ q r qo cI cZ cJ (σ', o, τ)) → va_S A s.heap H1 locs1 → W p l e R s m args below meth c H1 locs1 (cells + mc) (slots + ms) Q (F0 m (pc + 3) ls (.int v :: rest))) :
    W p l e R s m args below meth c H locs cells slots Q (F0 m pc ls st0) := by
  have hFc := va_free (wc := wd_C q cI cZ σ) hD hS hA [0, 1, 2, 3, 4, 5, 6, 7, 8, 9, 10, 11, 12, 13, 14, 15] rfl
  refine va_calli hr hS (fun q _ h => hFc q h) hFc (fun r9 u t H1 locs1 ht hvm hw hB hz1 hk1 hS1 => ?_)
  obtain ⟨hr9, hu⟩ := hw
  obtain ⟨hP1, hK1, hD1⟩ := hB
  rw [ht] at hP1
  rw [hu] at hP1 hD1
  rw [hr9]
  obtain ⟨hP, hD⟩ := va_join (wc := wd_C q cI cZ σ) (wr := wo_ qo cJ o :: wd_M r cI cZ τ) (w1 := wd_C q cI cZ σ') hP hD [0, 1, 2, 3, 4, 5, 6, 7, 8, 9, 10, 11, 12, 13, 14, 15] [16, 17, 18, 19, 20, 21, 22, 23, 24, 25, 26] rfl rfl (by decide) (by decide) hk1 hFc hP1 hD1
  exact kk H1 locs1 (hP.sub [11, 12, 13, 14, 15, 16, 17, 18, 19, 20, 21, 22, 23, 24, 25, 26, 0, 1, 2, 3, 4, 5, 6, 7, 8, 9, 10] rfl) (hD.sub [11, 12, 13, 14, 15, 16, 17, 18, 19, 20, 21, 22, 23, 24, 25, 26, 0, 1, 2, 3, 4, 5, 6, 7, 8, 9, 10] (by decide) rfl) hS1
/-- a call of the reference -/
theorem lc_m (hr : va_Run p l e R s m args below meth c H locs cells slots mc ms (F0 m pc ls st0) rest (qi_ D (wd_M r cI cZ) tys (va_A (wd_M r cI cZ τ) H.size) v τ' a) (va_A (wd_M r cI cZ τ) H.size))
    (hP : va_P D vwCl (wl_ q r qo cI cZ cJ (σ, o, τ)) H) (hD : va_D A (wl_ q r qo cI cZ cJ (σ, o, τ))) (hS : va_S A s.heap H locs) (hA : ∀ q, s.heap.size ≤ q → A q)
    (kk : ∀ (H1 : Heap) (locs1 : List Loc), va_P D vwCl (wl_ q r qo cI cZ cJ (σ, o, τ')) H1 → va_D A (wl_ q r qo cI cZ cJ (σ, o, τ')) → va_S A s.heap H1 locs1 → W p l e R s m args below meth c H1 locs1 (cells + mc) (slots + ms) Q (F0 m (pc + 3) ls (.int v :: rest))) :
    W p l e R s m args below meth c H locs cells slots Q (F0 m pc ls st0) := by
  have hFc := va_free (wc := wd_M r cI cZ τ) hD hS hA [17, 18, 19, 20, 21, 22, 23, 24, 25, 26] rfl
  refine va_calli hr hS (fun q _ h => hFc q h) hFc (fun r9 u t H1 locs1 ht hvm hw hB hz1 hk1 hS1 => ?_)
  obtain ⟨hr9, hu⟩ := hw
  obtain ⟨hP1, hK1, hD1⟩ := hB
  rw [ht] at hP1
  rw [hu] at hP1 hD1
  rw [hr9]
  obtain ⟨hP, hD⟩ := va_join (wc := wd_M r cI cZ τ) (wr := wh_ q qo cI cZ cJ (σ, o)) (w1 := wd_M r cI cZ τ') hP hD [17, 18, 19, 20, 21, 22, 23, 24, 25, 26] [0, 1, 2, 3, 4, 5, 6, 7, 8, 9, 10, 11, 12, 13, 14, 15, 16] rfl rfl (by decide) (by decide) hk1 hFc hP1 hD1
  exact kk H1 locs1 (hP.sub [0, 1, 2, 3, 4, 5, 6, 7, 8, 9, 10, 11, 12, 13, 14, 15, 16, 17, 18, 19, 20, 21, 22, 23, 24, 25, 26] rfl) (hD.sub [0, 1, 2, 3, 4, 5, 6, 7, 8, 9, 10, 11, 12, 13, 14, 15, 16, 17, 18, 19, 20, 21, 22, 23, 24, 25, 26] (by decide) rfl) hS1
theorem lc_mv (hr : va_Run p l e R s m args below meth c H locs cells slots mc ms (F0 m pc ls st0) rest (qv_ D (wd_M r cI cZ) tys (va_A (wd_M r cI cZ τ) H.size) τ' a) (va_A (wd_M r cI cZ τ) H.size))
    (hP : va_P D vwCl (wl_ q r qo cI cZ cJ (σ, o, τ)) H) (hD : va_D A (wl_ q r qo cI cZ cJ (σ, o, τ))) (hS : va_S A s.heap H locs) (hA : ∀ q, s.heap.size ≤ q → A q)
    (kk : ∀ (H1 : Heap) (locs1 : List Loc), va_P D vwCl (wl_ q r qo cI cZ cJ (σ, o, τ')) H1 → va_D A (wl_ q r qo cI cZ cJ (σ, o, τ')) → va_S A s.heap H1 locs1 → W p l e R s m args below meth c H1 locs1 (cells + mc) (slots + ms) Q (F0 m (pc + 3) ls rest)) :
    W p l e R s m args below meth c H locs cells slots Q (F0 m pc ls st0) := by
  have hFc := va_free (wc := wd_M r cI cZ τ) hD hS hA [17, 18, 19, 20, 21, 22, 23, 24, 25, 26] rfl
  refine va_callv hr hS (fun q _ h => hFc q h) hFc (fun u t H1 locs1 ht hvm hw hB hz1 hk1 hS1 => ?_)
  obtain ⟨hP1, hK1, hD1⟩ := hB
  rw [ht] at hP1
  rw [hw] at hP1 hD1
  obtain ⟨hP, hD⟩ := va_join (wc := wd_M r cI cZ τ) (wr := wh_ q qo cI cZ cJ (σ, o)) (w1 := wd_M r cI cZ τ') hP hD [17, 18, 19, 20, 21, 22, 23, 24, 25, 26] [0, 1, 2, 3, 4, 5, 6, 7, 8, 9, 10, 11, 12, 13, 14, 15, 16] rfl rfl (by decide) (by decide) hk1 hFc hP1 hD1
  exact kk H1 locs1 (hP.sub [0, 1, 2, 3, 4, 5, 6, 7, 8, 9, 10, 11, 12, 13, 14, 15, 16, 17, 18, 19, 20, 21, 22, 23, 24, 25, 26] rfl) (hD.sub [0, 1, 2, 3, 4, 5, 6, 7, 8, 9, 10, 11, 12, 13, 14, 15, 16, 17, 18, 19, 20, 21, 22, 23, 24, 25, 26] (by decide) rfl) hS1
end LC
theorem sw_31 (x : Int32) : ∃ c, c < 32 ∧ x &&& 31 = nI c := by
  refine ⟨(x &&& 31).toBitVec.toNat, ?_, ?_⟩
  · have h : (x &&& 31).toBitVec = x.toBitVec &&& 31#32 := rfl
    rw [h, BitVec.toNat_and]
    exact Nat.lt_of_le_of_lt Nat.and_le_right (by decide)
  · apply Int32.toBitVec_inj.mp
    show _ = BitVec.ofNat 32 _
    simp
theorem sw_in {x : Int32} {lo hi : Int} {offs : Array Int} {c : Nat} {o : Int} (h : x = nI c) (h1 : ¬ (nI c).toInt < lo) (h2 : ¬ hi < (nI c).toInt) (h3 : offs[((nI c).toInt - lo).toNat]? = some o) : ¬ x.toInt < lo ∧ ¬ hi < x.toInt ∧ offs[(x.toInt - lo).toNat]? = some o := by
  subst h; exact ⟨h1, h2, h3⟩
theorem sc_in {j k L : Nat} (hj : 4 * j + 4 ≤ L) (hL : L ≤ 2048) (hk : k < 4) : vp_in (nI (4 * j) + nI k) L := by
  rw [nI_add]
  exact nI_in (by omega) (by omega)
def lx_ (p : Program) (l : Launch) (s : State) (m : MethodId) (meth : Method) (c : Code) (b L : Nat) (xs : Nat → Int32) (D : va_G) (cI cZ cJ : ClassId) (A : Nat → Prop) : Prop :=
  p.tables.exec = Jvm.exec ∧ c.code = code ∧ meth.sig.returnType = ret ∧ c.maxLocals = 7 ∧ s.vm.findClass "MovedFramesLaw" = some m.cls ∧ (∀ w ∈ BG, w.before #[Value.ref b] s = true) ∧ va_X b L xs s s.heap ∧ b < s.heap.size ∧ ¬ A b ∧ meth.locks = false ∧ va_K D vwCl (ty3_ cI cZ cJ) s ∧ nl_ s ∧ tp_ s ∧ zq_ A s s.heap ∧ nc_ s ∧ (∀ q, s.heap.size ≤ q → A q) ∧ (∀ q, A q → s.heap.size ≤ q) ∧ l.stackTraces = false
def bw_ (p : Program) (l : Launch) (e : Env) (s : State) (m : MethodId) (below : List Frame) (meth : Method) (c : Code) (Q : State → Prop) (A : Nat → Prop) (D : va_G) (q r : Nat → Nat) (qo : Nat) (cI cZ cJ : ClassId) (b cells slots pc : Nat) (lv : List (Nat × Value)) (st : List Value) (u : CS × (Nat → Int64) × MS) : Prop :=
  ∀ (ls : Array Slot) (H : Heap) (locs : List Loc), lv_has ls 7 lv → va_P D vwCl (wl_ q r qo cI cZ cJ u) H → va_D A (wl_ q r qo cI cZ cJ u) → va_S A s.heap H locs → W p l e room_1 s m #[Value.ref b] below meth c H locs cells slots Q (F0 m pc ls st)
