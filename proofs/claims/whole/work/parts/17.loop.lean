theorem d_Law_law_0 : decode code 0 = .ok (.new 8, 3) := by decide +kernel
theorem d_Law_law_3 : decode code 3 = .ok (.dup, 1) := by decide +kernel
theorem d_Law_law_4 : decode code 4 = .ok (.invokespecial 76, 3) := by decide +kernel
theorem d_Law_law_7 : decode code 7 = .ok (.astore_n 1, 1) := by decide +kernel
theorem d_Law_law_8 : decode code 8 = .ok (.new 77, 3) := by decide +kernel
theorem d_Law_law_11 : decode code 11 = .ok (.dup, 1) := by decide +kernel
theorem d_Law_law_12 : decode code 12 = .ok (.invokespecial 79, 3) := by decide +kernel
theorem d_Law_law_15 : decode code 15 = .ok (.astore_n 2, 1) := by decide +kernel
theorem d_Law_law_16 : decode code 16 = .ok (.iconst 1, 1) := by decide +kernel
theorem d_Law_law_17 : decode code 17 = .ok (.newarray .long, 2) := by decide +kernel
theorem d_Law_law_19 : decode code 19 = .ok (.astore_n 3, 1) := by decide +kernel
theorem d_Law_law_20 : decode code 20 = .ok (.iconst 0, 1) := by decide +kernel
theorem d_Law_law_21 : decode code 21 = .ok (.istore 4, 2) := by decide +kernel
theorem d_Law_law_23 : decode code 23 = .ok (.iload 4, 2) := by decide +kernel
theorem d_Law_law_25 : decode code 25 = .ok (.aload_n 0, 1) := by decide +kernel
theorem d_Law_law_26 : decode code 26 = .ok (.arraylength, 1) := by decide +kernel
theorem d_Law_law_27 : decode code 27 = .ok (.iconst 5, 1) := by decide +kernel
theorem d_Law_law_28 : decode code 28 = .ok (.isub, 1) := by decide +kernel
theorem d_Law_law_29 : decode code 29 = .ok (.if_icmp .gt 1361, 3) := by decide +kernel
theorem d_Law_law_32 : decode code 32 = .ok (.aload_n 0, 1) := by decide +kernel
theorem d_Law_law_33 : decode code 33 = .ok (.iload 4, 2) := by decide +kernel
theorem d_Law_law_35 : decode code 35 = .ok (.iaload, 1) := by decide +kernel
theorem d_Law_law_36 : decode code 36 = .ok (.bipush 31, 2) := by decide +kernel
theorem d_Law_law_38 : decode code 38 = .ok (.iand, 1) := by decide +kernel
theorem d_Law_law_39 : decode code 39 = .ok (.tableswitch 1345 0 21 #[101, 157, 170, 183, 227, 283, 351, 431, 487, 544, 612, 656, 712, 756, 812, 825, 933, 989, 1033, 1133, 1233, 1289], 101) := by decide +kernel
theorem d_Law_law_140 : decode code 140 = .ok (.aload_n 1, 1) := by decide +kernel
theorem d_Law_law_141 : decode code 141 = .ok (.aload_n 0, 1) := by decide +kernel
theorem d_Law_law_142 : decode code 142 = .ok (.iload 4, 2) := by decide +kernel
theorem d_Law_law_144 : decode code 144 = .ok (.iconst 1, 1) := by decide +kernel
theorem d_Law_law_145 : decode code 145 = .ok (.iadd, 1) := by decide +kernel
theorem d_Law_law_146 : decode code 146 = .ok (.iaload, 1) := by decide +kernel
theorem d_Law_law_147 : decode code 147 = .ok (.aload_n 3, 1) := by decide +kernel
theorem d_Law_law_148 : decode code 148 = .ok (.invokestatic 80, 3) := by decide +kernel
theorem d_Law_law_151 : decode code 151 = .ok (.istore 5, 2) := by decide +kernel
theorem d_Law_law_153 : decode code 153 = .ok (.aload_n 2, 1) := by decide +kernel
theorem d_Law_law_154 : decode code 154 = .ok (.aload_n 0, 1) := by decide +kernel
theorem d_Law_law_155 : decode code 155 = .ok (.iload 4, 2) := by decide +kernel
theorem d_Law_law_157 : decode code 157 = .ok (.iconst 1, 1) := by decide +kernel
theorem d_Law_law_158 : decode code 158 = .ok (.iadd, 1) := by decide +kernel
theorem d_Law_law_159 : decode code 159 = .ok (.iaload, 1) := by decide +kernel
theorem d_Law_law_160 : decode code 160 = .ok (.invokevirtual 85, 3) := by decide +kernel
theorem d_Law_law_163 : decode code 163 = .ok (.istore 6, 2) := by decide +kernel
theorem d_Law_law_165 : decode code 165 = .ok (.aload_n 2, 1) := by decide +kernel
theorem d_Law_law_166 : decode code 166 = .ok (.invokevirtual 86, 3) := by decide +kernel
theorem d_Law_law_169 : decode code 169 = .ok (.iload 5, 2) := by decide +kernel
theorem d_Law_law_171 : decode code 171 = .ok (.if_icmp .eq 5, 3) := by decide +kernel
theorem d_Law_law_174 : decode code 174 = .ok (.iconst 0, 1) := by decide +kernel
theorem d_Law_law_175 : decode code 175 = .ok (.ireturn, 1) := by decide +kernel
theorem d_Law_law_176 : decode code 176 = .ok (.iload 5, 2) := by decide +kernel
theorem d_Law_law_178 : decode code 178 = .ok (.ifCond .ne 15, 3) := by decide +kernel
theorem d_Law_law_181 : decode code 181 = .ok (.aload_n 3, 1) := by decide +kernel
theorem d_Law_law_182 : decode code 182 = .ok (.iconst 0, 1) := by decide +kernel
theorem d_Law_law_183 : decode code 183 = .ok (.laload, 1) := by decide +kernel
theorem d_Law_law_184 : decode code 184 = .ok (.iload 6, 2) := by decide +kernel
theorem d_Law_law_186 : decode code 186 = .ok (.i2l, 1) := by decide +kernel
theorem d_Law_law_187 : decode code 187 = .ok (.lcmp, 1) := by decide +kernel
theorem d_Law_law_188 : decode code 188 = .ok (.ifCond .eq 5, 3) := by decide +kernel
theorem d_Law_law_191 : decode code 191 = .ok (.iconst 0, 1) := by decide +kernel
theorem d_Law_law_192 : decode code 192 = .ok (.ireturn, 1) := by decide +kernel
theorem d_Law_law_193 : decode code 193 = .ok (.goto 1191, 3) := by decide +kernel
theorem d_Law_law_196 : decode code 196 = .ok (.aload_n 1, 1) := by decide +kernel
theorem d_Law_law_197 : decode code 197 = .ok (.invokevirtual 89, 3) := by decide +kernel
theorem d_Law_law_200 : decode code 200 = .ok (.aload_n 2, 1) := by decide +kernel
theorem d_Law_law_201 : decode code 201 = .ok (.invokevirtual 92, 3) := by decide +kernel
theorem d_Law_law_204 : decode code 204 = .ok (.if_icmp .eq 1180, 3) := by decide +kernel
theorem d_Law_law_207 : decode code 207 = .ok (.iconst 0, 1) := by decide +kernel
theorem d_Law_law_208 : decode code 208 = .ok (.ireturn, 1) := by decide +kernel
theorem d_Law_law_209 : decode code 209 = .ok (.aload_n 1, 1) := by decide +kernel
theorem d_Law_law_210 : decode code 210 = .ok (.invokevirtual 93, 3) := by decide +kernel
theorem d_Law_law_213 : decode code 213 = .ok (.aload_n 2, 1) := by decide +kernel
theorem d_Law_law_214 : decode code 214 = .ok (.invokevirtual 96, 3) := by decide +kernel
theorem d_Law_law_217 : decode code 217 = .ok (.if_icmp .eq 1167, 3) := by decide +kernel
theorem d_Law_law_220 : decode code 220 = .ok (.iconst 0, 1) := by decide +kernel
theorem d_Law_law_221 : decode code 221 = .ok (.ireturn, 1) := by decide +kernel
theorem d_Law_law_222 : decode code 222 = .ok (.aload_n 1, 1) := by decide +kernel
theorem d_Law_law_223 : decode code 223 = .ok (.aload_n 3, 1) := by decide +kernel
theorem d_Law_law_224 : decode code 224 = .ok (.invokestatic 97, 3) := by decide +kernel
theorem d_Law_law_227 : decode code 227 = .ok (.istore 5, 2) := by decide +kernel
theorem d_Law_law_229 : decode code 229 = .ok (.aload_n 2, 1) := by decide +kernel
theorem d_Law_law_230 : decode code 230 = .ok (.invokevirtual 100, 3) := by decide +kernel
theorem d_Law_law_233 : decode code 233 = .ok (.istore 6, 2) := by decide +kernel
theorem d_Law_law_235 : decode code 235 = .ok (.aload_n 2, 1) := by decide +kernel
theorem d_Law_law_236 : decode code 236 = .ok (.invokevirtual 86, 3) := by decide +kernel
theorem d_Law_law_239 : decode code 239 = .ok (.iload 5, 2) := by decide +kernel
theorem d_Law_law_241 : decode code 241 = .ok (.if_icmp .eq 5, 3) := by decide +kernel
theorem d_Law_law_244 : decode code 244 = .ok (.iconst 0, 1) := by decide +kernel
theorem d_Law_law_245 : decode code 245 = .ok (.ireturn, 1) := by decide +kernel
theorem d_Law_law_246 : decode code 246 = .ok (.iload 5, 2) := by decide +kernel
theorem d_Law_law_248 : decode code 248 = .ok (.ifCond .ne 15, 3) := by decide +kernel
theorem d_Law_law_251 : decode code 251 = .ok (.aload_n 3, 1) := by decide +kernel
theorem d_Law_law_252 : decode code 252 = .ok (.iconst 0, 1) := by decide +kernel
theorem d_Law_law_253 : decode code 253 = .ok (.laload, 1) := by decide +kernel
theorem d_Law_law_254 : decode code 254 = .ok (.iload 6, 2) := by decide +kernel
theorem d_Law_law_256 : decode code 256 = .ok (.i2l, 1) := by decide +kernel
theorem d_Law_law_257 : decode code 257 = .ok (.lcmp, 1) := by decide +kernel
theorem d_Law_law_258 : decode code 258 = .ok (.ifCond .eq 5, 3) := by decide +kernel
theorem d_Law_law_261 : decode code 261 = .ok (.iconst 0, 1) := by decide +kernel
theorem d_Law_law_262 : decode code 262 = .ok (.ireturn, 1) := by decide +kernel
theorem d_Law_law_263 : decode code 263 = .ok (.goto 1121, 3) := by decide +kernel
theorem d_Law_law_266 : decode code 266 = .ok (.aload_n 1, 1) := by decide +kernel
theorem d_Law_law_267 : decode code 267 = .ok (.aload_n 0, 1) := by decide +kernel
theorem d_Law_law_268 : decode code 268 = .ok (.iload 4, 2) := by decide +kernel
theorem d_Law_law_270 : decode code 270 = .ok (.iconst 1, 1) := by decide +kernel
theorem d_Law_law_271 : decode code 271 = .ok (.iadd, 1) := by decide +kernel
theorem d_Law_law_272 : decode code 272 = .ok (.iaload, 1) := by decide +kernel
theorem d_Law_law_273 : decode code 273 = .ok (.aload_n 3, 1) := by decide +kernel
theorem d_Law_law_274 : decode code 274 = .ok (.invokestatic 101, 3) := by decide +kernel
theorem d_Law_law_277 : decode code 277 = .ok (.istore 5, 2) := by decide +kernel
theorem d_Law_law_279 : decode code 279 = .ok (.aload_n 2, 1) := by decide +kernel
theorem d_Law_law_280 : decode code 280 = .ok (.aload_n 0, 1) := by decide +kernel
theorem d_Law_law_281 : decode code 281 = .ok (.iload 4, 2) := by decide +kernel
theorem d_Law_law_283 : decode code 283 = .ok (.iconst 1, 1) := by decide +kernel
theorem d_Law_law_284 : decode code 284 = .ok (.iadd, 1) := by decide +kernel
theorem d_Law_law_285 : decode code 285 = .ok (.iaload, 1) := by decide +kernel
theorem d_Law_law_286 : decode code 286 = .ok (.invokevirtual 103, 3) := by decide +kernel
theorem d_Law_law_289 : decode code 289 = .ok (.istore 6, 2) := by decide +kernel
theorem d_Law_law_291 : decode code 291 = .ok (.aload_n 2, 1) := by decide +kernel
theorem d_Law_law_292 : decode code 292 = .ok (.invokevirtual 86, 3) := by decide +kernel
theorem d_Law_law_295 : decode code 295 = .ok (.iload 5, 2) := by decide +kernel
theorem d_Law_law_297 : decode code 297 = .ok (.if_icmp .eq 5, 3) := by decide +kernel
theorem d_Law_law_300 : decode code 300 = .ok (.iconst 0, 1) := by decide +kernel
theorem d_Law_law_301 : decode code 301 = .ok (.ireturn, 1) := by decide +kernel
theorem d_Law_law_302 : decode code 302 = .ok (.iload 5, 2) := by decide +kernel
theorem d_Law_law_304 : decode code 304 = .ok (.ifCond .ne 15, 3) := by decide +kernel
theorem d_Law_law_307 : decode code 307 = .ok (.aload_n 3, 1) := by decide +kernel
theorem d_Law_law_308 : decode code 308 = .ok (.iconst 0, 1) := by decide +kernel
theorem d_Law_law_309 : decode code 309 = .ok (.laload, 1) := by decide +kernel
theorem d_Law_law_310 : decode code 310 = .ok (.iload 6, 2) := by decide +kernel
theorem d_Law_law_312 : decode code 312 = .ok (.i2l, 1) := by decide +kernel
theorem d_Law_law_313 : decode code 313 = .ok (.lcmp, 1) := by decide +kernel
theorem d_Law_law_314 : decode code 314 = .ok (.ifCond .eq 5, 3) := by decide +kernel
theorem d_Law_law_317 : decode code 317 = .ok (.iconst 0, 1) := by decide +kernel
theorem d_Law_law_318 : decode code 318 = .ok (.ireturn, 1) := by decide +kernel
theorem d_Law_law_319 : decode code 319 = .ok (.goto 1065, 3) := by decide +kernel
theorem d_Law_law_322 : decode code 322 = .ok (.aload_n 1, 1) := by decide +kernel
theorem d_Law_law_323 : decode code 323 = .ok (.aload_n 0, 1) := by decide +kernel
theorem d_Law_law_324 : decode code 324 = .ok (.iload 4, 2) := by decide +kernel
theorem d_Law_law_326 : decode code 326 = .ok (.iconst 1, 1) := by decide +kernel
theorem d_Law_law_327 : decode code 327 = .ok (.iadd, 1) := by decide +kernel
theorem d_Law_law_328 : decode code 328 = .ok (.iaload, 1) := by decide +kernel
theorem d_Law_law_329 : decode code 329 = .ok (.aload_n 0, 1) := by decide +kernel
theorem d_Law_law_330 : decode code 330 = .ok (.iload 4, 2) := by decide +kernel
theorem d_Law_law_332 : decode code 332 = .ok (.iconst 2, 1) := by decide +kernel
theorem d_Law_law_333 : decode code 333 = .ok (.iadd, 1) := by decide +kernel
theorem d_Law_law_334 : decode code 334 = .ok (.iaload, 1) := by decide +kernel
theorem d_Law_law_335 : decode code 335 = .ok (.aload_n 3, 1) := by decide +kernel
theorem d_Law_law_336 : decode code 336 = .ok (.invokestatic 104, 3) := by decide +kernel
theorem d_Law_law_339 : decode code 339 = .ok (.istore 5, 2) := by decide +kernel
theorem d_Law_law_341 : decode code 341 = .ok (.aload_n 2, 1) := by decide +kernel
theorem d_Law_law_342 : decode code 342 = .ok (.aload_n 0, 1) := by decide +kernel
theorem d_Law_law_343 : decode code 343 = .ok (.iload 4, 2) := by decide +kernel
theorem d_Law_law_345 : decode code 345 = .ok (.iconst 1, 1) := by decide +kernel
theorem d_Law_law_346 : decode code 346 = .ok (.iadd, 1) := by decide +kernel
theorem d_Law_law_347 : decode code 347 = .ok (.iaload, 1) := by decide +kernel
theorem d_Law_law_348 : decode code 348 = .ok (.aload_n 0, 1) := by decide +kernel
theorem d_Law_law_349 : decode code 349 = .ok (.iload 4, 2) := by decide +kernel
theorem d_Law_law_351 : decode code 351 = .ok (.iconst 2, 1) := by decide +kernel
theorem d_Law_law_352 : decode code 352 = .ok (.iadd, 1) := by decide +kernel
theorem d_Law_law_353 : decode code 353 = .ok (.iaload, 1) := by decide +kernel
theorem d_Law_law_354 : decode code 354 = .ok (.invokevirtual 107, 3) := by decide +kernel
theorem d_Law_law_357 : decode code 357 = .ok (.istore 6, 2) := by decide +kernel
theorem d_Law_law_359 : decode code 359 = .ok (.aload_n 2, 1) := by decide +kernel
theorem d_Law_law_360 : decode code 360 = .ok (.invokevirtual 86, 3) := by decide +kernel
theorem d_Law_law_363 : decode code 363 = .ok (.iload 5, 2) := by decide +kernel
theorem d_Law_law_365 : decode code 365 = .ok (.if_icmp .eq 5, 3) := by decide +kernel
theorem d_Law_law_368 : decode code 368 = .ok (.iconst 0, 1) := by decide +kernel
theorem d_Law_law_369 : decode code 369 = .ok (.ireturn, 1) := by decide +kernel
theorem d_Law_law_370 : decode code 370 = .ok (.iload 5, 2) := by decide +kernel
theorem d_Law_law_372 : decode code 372 = .ok (.ifCond .ne 15, 3) := by decide +kernel
theorem d_Law_law_375 : decode code 375 = .ok (.aload_n 3, 1) := by decide +kernel
theorem d_Law_law_376 : decode code 376 = .ok (.iconst 0, 1) := by decide +kernel
theorem d_Law_law_377 : decode code 377 = .ok (.laload, 1) := by decide +kernel
theorem d_Law_law_378 : decode code 378 = .ok (.iload 6, 2) := by decide +kernel
theorem d_Law_law_380 : decode code 380 = .ok (.i2l, 1) := by decide +kernel
theorem d_Law_law_381 : decode code 381 = .ok (.lcmp, 1) := by decide +kernel
theorem d_Law_law_382 : decode code 382 = .ok (.ifCond .eq 5, 3) := by decide +kernel
theorem d_Law_law_385 : decode code 385 = .ok (.iconst 0, 1) := by decide +kernel
theorem d_Law_law_386 : decode code 386 = .ok (.ireturn, 1) := by decide +kernel
theorem d_Law_law_387 : decode code 387 = .ok (.goto 997, 3) := by decide +kernel
theorem d_Law_law_390 : decode code 390 = .ok (.aload_n 1, 1) := by decide +kernel
theorem d_Law_law_391 : decode code 391 = .ok (.aload_n 0, 1) := by decide +kernel
theorem d_Law_law_392 : decode code 392 = .ok (.iload 4, 2) := by decide +kernel
theorem d_Law_law_394 : decode code 394 = .ok (.iconst 1, 1) := by decide +kernel
theorem d_Law_law_395 : decode code 395 = .ok (.iadd, 1) := by decide +kernel
theorem d_Law_law_396 : decode code 396 = .ok (.iaload, 1) := by decide +kernel
theorem d_Law_law_397 : decode code 397 = .ok (.aload_n 0, 1) := by decide +kernel
theorem d_Law_law_398 : decode code 398 = .ok (.iload 4, 2) := by decide +kernel
theorem d_Law_law_400 : decode code 400 = .ok (.iconst 2, 1) := by decide +kernel
theorem d_Law_law_401 : decode code 401 = .ok (.iadd, 1) := by decide +kernel
theorem d_Law_law_402 : decode code 402 = .ok (.iaload, 1) := by decide +kernel
theorem d_Law_law_403 : decode code 403 = .ok (.aload_n 0, 1) := by decide +kernel
theorem d_Law_law_404 : decode code 404 = .ok (.iload 4, 2) := by decide +kernel
theorem d_Law_law_406 : decode code 406 = .ok (.iconst 3, 1) := by decide +kernel
theorem d_Law_law_407 : decode code 407 = .ok (.iadd, 1) := by decide +kernel
theorem d_Law_law_408 : decode code 408 = .ok (.iaload, 1) := by decide +kernel
theorem d_Law_law_409 : decode code 409 = .ok (.aload_n 3, 1) := by decide +kernel
theorem d_Law_law_410 : decode code 410 = .ok (.invokestatic 108, 3) := by decide +kernel
theorem d_Law_law_413 : decode code 413 = .ok (.istore 5, 2) := by decide +kernel
theorem d_Law_law_415 : decode code 415 = .ok (.aload_n 2, 1) := by decide +kernel
theorem d_Law_law_416 : decode code 416 = .ok (.aload_n 0, 1) := by decide +kernel
theorem d_Law_law_417 : decode code 417 = .ok (.iload 4, 2) := by decide +kernel
theorem d_Law_law_419 : decode code 419 = .ok (.iconst 1, 1) := by decide +kernel
theorem d_Law_law_420 : decode code 420 = .ok (.iadd, 1) := by decide +kernel
theorem d_Law_law_421 : decode code 421 = .ok (.iaload, 1) := by decide +kernel
theorem d_Law_law_422 : decode code 422 = .ok (.aload_n 0, 1) := by decide +kernel
theorem d_Law_law_423 : decode code 423 = .ok (.iload 4, 2) := by decide +kernel
theorem d_Law_law_425 : decode code 425 = .ok (.iconst 2, 1) := by decide +kernel
theorem d_Law_law_426 : decode code 426 = .ok (.iadd, 1) := by decide +kernel
theorem d_Law_law_427 : decode code 427 = .ok (.iaload, 1) := by decide +kernel
theorem d_Law_law_428 : decode code 428 = .ok (.aload_n 0, 1) := by decide +kernel
theorem d_Law_law_429 : decode code 429 = .ok (.iload 4, 2) := by decide +kernel
theorem d_Law_law_431 : decode code 431 = .ok (.iconst 3, 1) := by decide +kernel
theorem d_Law_law_432 : decode code 432 = .ok (.iadd, 1) := by decide +kernel
theorem d_Law_law_433 : decode code 433 = .ok (.iaload, 1) := by decide +kernel
theorem d_Law_law_434 : decode code 434 = .ok (.invokevirtual 111, 3) := by decide +kernel
theorem d_Law_law_437 : decode code 437 = .ok (.istore 6, 2) := by decide +kernel
theorem d_Law_law_439 : decode code 439 = .ok (.aload_n 2, 1) := by decide +kernel
theorem d_Law_law_440 : decode code 440 = .ok (.invokevirtual 86, 3) := by decide +kernel
theorem d_Law_law_443 : decode code 443 = .ok (.iload 5, 2) := by decide +kernel
theorem d_Law_law_445 : decode code 445 = .ok (.if_icmp .eq 5, 3) := by decide +kernel
theorem d_Law_law_448 : decode code 448 = .ok (.iconst 0, 1) := by decide +kernel
theorem d_Law_law_449 : decode code 449 = .ok (.ireturn, 1) := by decide +kernel
theorem d_Law_law_450 : decode code 450 = .ok (.iload 5, 2) := by decide +kernel
theorem d_Law_law_452 : decode code 452 = .ok (.ifCond .ne 15, 3) := by decide +kernel
theorem d_Law_law_455 : decode code 455 = .ok (.aload_n 3, 1) := by decide +kernel
theorem d_Law_law_456 : decode code 456 = .ok (.iconst 0, 1) := by decide +kernel
theorem d_Law_law_457 : decode code 457 = .ok (.laload, 1) := by decide +kernel
theorem d_Law_law_458 : decode code 458 = .ok (.iload 6, 2) := by decide +kernel
theorem d_Law_law_460 : decode code 460 = .ok (.i2l, 1) := by decide +kernel
theorem d_Law_law_461 : decode code 461 = .ok (.lcmp, 1) := by decide +kernel
theorem d_Law_law_462 : decode code 462 = .ok (.ifCond .eq 5, 3) := by decide +kernel
theorem d_Law_law_465 : decode code 465 = .ok (.iconst 0, 1) := by decide +kernel
theorem d_Law_law_466 : decode code 466 = .ok (.ireturn, 1) := by decide +kernel
theorem d_Law_law_467 : decode code 467 = .ok (.goto 917, 3) := by decide +kernel
theorem d_Law_law_470 : decode code 470 = .ok (.aload_n 1, 1) := by decide +kernel
theorem d_Law_law_471 : decode code 471 = .ok (.aload_n 0, 1) := by decide +kernel
theorem d_Law_law_472 : decode code 472 = .ok (.iload 4, 2) := by decide +kernel
theorem d_Law_law_474 : decode code 474 = .ok (.iconst 1, 1) := by decide +kernel
theorem d_Law_law_475 : decode code 475 = .ok (.iadd, 1) := by decide +kernel
theorem d_Law_law_476 : decode code 476 = .ok (.iaload, 1) := by decide +kernel
theorem d_Law_law_477 : decode code 477 = .ok (.aload_n 3, 1) := by decide +kernel
theorem d_Law_law_478 : decode code 478 = .ok (.invokestatic 112, 3) := by decide +kernel
theorem d_Law_law_481 : decode code 481 = .ok (.istore 5, 2) := by decide +kernel
theorem d_Law_law_483 : decode code 483 = .ok (.aload_n 2, 1) := by decide +kernel
theorem d_Law_law_484 : decode code 484 = .ok (.aload_n 0, 1) := by decide +kernel
theorem d_Law_law_485 : decode code 485 = .ok (.iload 4, 2) := by decide +kernel
theorem d_Law_law_487 : decode code 487 = .ok (.iconst 1, 1) := by decide +kernel
theorem d_Law_law_488 : decode code 488 = .ok (.iadd, 1) := by decide +kernel
theorem d_Law_law_489 : decode code 489 = .ok (.iaload, 1) := by decide +kernel
theorem d_Law_law_490 : decode code 490 = .ok (.invokevirtual 114, 3) := by decide +kernel
theorem d_Law_law_493 : decode code 493 = .ok (.istore 6, 2) := by decide +kernel
theorem d_Law_law_495 : decode code 495 = .ok (.aload_n 2, 1) := by decide +kernel
theorem d_Law_law_496 : decode code 496 = .ok (.invokevirtual 86, 3) := by decide +kernel
theorem d_Law_law_499 : decode code 499 = .ok (.iload 5, 2) := by decide +kernel
theorem d_Law_law_501 : decode code 501 = .ok (.if_icmp .eq 5, 3) := by decide +kernel
theorem d_Law_law_504 : decode code 504 = .ok (.iconst 0, 1) := by decide +kernel
theorem d_Law_law_505 : decode code 505 = .ok (.ireturn, 1) := by decide +kernel
theorem d_Law_law_506 : decode code 506 = .ok (.iload 5, 2) := by decide +kernel
theorem d_Law_law_508 : decode code 508 = .ok (.ifCond .ne 15, 3) := by decide +kernel
theorem d_Law_law_511 : decode code 511 = .ok (.aload_n 3, 1) := by decide +kernel
theorem d_Law_law_512 : decode code 512 = .ok (.iconst 0, 1) := by decide +kernel
theorem d_Law_law_513 : decode code 513 = .ok (.laload, 1) := by decide +kernel
theorem d_Law_law_514 : decode code 514 = .ok (.iload 6, 2) := by decide +kernel
theorem d_Law_law_516 : decode code 516 = .ok (.i2l, 1) := by decide +kernel
theorem d_Law_law_517 : decode code 517 = .ok (.lcmp, 1) := by decide +kernel
theorem d_Law_law_518 : decode code 518 = .ok (.ifCond .eq 5, 3) := by decide +kernel
theorem d_Law_law_521 : decode code 521 = .ok (.iconst 0, 1) := by decide +kernel
theorem d_Law_law_522 : decode code 522 = .ok (.ireturn, 1) := by decide +kernel
theorem d_Law_law_523 : decode code 523 = .ok (.goto 861, 3) := by decide +kernel
theorem d_Law_law_526 : decode code 526 = .ok (.aload_n 1, 1) := by decide +kernel
theorem d_Law_law_527 : decode code 527 = .ok (.aload_n 0, 1) := by decide +kernel
theorem d_Law_law_528 : decode code 528 = .ok (.iload 4, 2) := by decide +kernel
theorem d_Law_law_530 : decode code 530 = .ok (.iconst 1, 1) := by decide +kernel
theorem d_Law_law_531 : decode code 531 = .ok (.iadd, 1) := by decide +kernel
theorem d_Law_law_532 : decode code 532 = .ok (.iaload, 1) := by decide +kernel
theorem d_Law_law_533 : decode code 533 = .ok (.i2l, 1) := by decide +kernel
theorem d_Law_law_534 : decode code 534 = .ok (.bipush 32, 2) := by decide +kernel
theorem d_Law_law_536 : decode code 536 = .ok (.lshl, 1) := by decide +kernel
theorem d_Law_law_537 : decode code 537 = .ok (.aload_n 0, 1) := by decide +kernel
theorem d_Law_law_538 : decode code 538 = .ok (.iload 4, 2) := by decide +kernel
theorem d_Law_law_540 : decode code 540 = .ok (.iconst 2, 1) := by decide +kernel
theorem d_Law_law_541 : decode code 541 = .ok (.iadd, 1) := by decide +kernel
theorem d_Law_law_542 : decode code 542 = .ok (.iaload, 1) := by decide +kernel
theorem d_Law_law_543 : decode code 543 = .ok (.i2l, 1) := by decide +kernel
theorem d_Law_law_544 : decode code 544 = .ok (.ldc2_w 115, 3) := by decide +kernel
theorem d_Law_law_547 : decode code 547 = .ok (.land, 1) := by decide +kernel
theorem d_Law_law_548 : decode code 548 = .ok (.lor, 1) := by decide +kernel
theorem d_Law_law_549 : decode code 549 = .ok (.invokevirtual 117, 3) := by decide +kernel
theorem d_Law_law_552 : decode code 552 = .ok (.aload_n 2, 1) := by decide +kernel
theorem d_Law_law_553 : decode code 553 = .ok (.aload_n 0, 1) := by decide +kernel
theorem d_Law_law_554 : decode code 554 = .ok (.iload 4, 2) := by decide +kernel
theorem d_Law_law_556 : decode code 556 = .ok (.iconst 1, 1) := by decide +kernel
theorem d_Law_law_557 : decode code 557 = .ok (.iadd, 1) := by decide +kernel
theorem d_Law_law_558 : decode code 558 = .ok (.iaload, 1) := by decide +kernel
theorem d_Law_law_559 : decode code 559 = .ok (.i2l, 1) := by decide +kernel
theorem d_Law_law_560 : decode code 560 = .ok (.bipush 32, 2) := by decide +kernel
theorem d_Law_law_562 : decode code 562 = .ok (.lshl, 1) := by decide +kernel
theorem d_Law_law_563 : decode code 563 = .ok (.aload_n 0, 1) := by decide +kernel
theorem d_Law_law_564 : decode code 564 = .ok (.iload 4, 2) := by decide +kernel
theorem d_Law_law_566 : decode code 566 = .ok (.iconst 2, 1) := by decide +kernel
theorem d_Law_law_567 : decode code 567 = .ok (.iadd, 1) := by decide +kernel
theorem d_Law_law_568 : decode code 568 = .ok (.iaload, 1) := by decide +kernel
theorem d_Law_law_569 : decode code 569 = .ok (.i2l, 1) := by decide +kernel
theorem d_Law_law_570 : decode code 570 = .ok (.ldc2_w 115, 3) := by decide +kernel
theorem d_Law_law_573 : decode code 573 = .ok (.land, 1) := by decide +kernel
theorem d_Law_law_574 : decode code 574 = .ok (.lor, 1) := by decide +kernel
theorem d_Law_law_575 : decode code 575 = .ok (.invokevirtual 121, 3) := by decide +kernel
theorem d_Law_law_578 : decode code 578 = .ok (.if_icmp .eq 806, 3) := by decide +kernel
theorem d_Law_law_581 : decode code 581 = .ok (.iconst 0, 1) := by decide +kernel
theorem d_Law_law_582 : decode code 582 = .ok (.ireturn, 1) := by decide +kernel
theorem d_Law_law_583 : decode code 583 = .ok (.aload_n 1, 1) := by decide +kernel
theorem d_Law_law_584 : decode code 584 = .ok (.aload_n 0, 1) := by decide +kernel
theorem d_Law_law_585 : decode code 585 = .ok (.iload 4, 2) := by decide +kernel
theorem d_Law_law_587 : decode code 587 = .ok (.iconst 1, 1) := by decide +kernel
theorem d_Law_law_588 : decode code 588 = .ok (.iadd, 1) := by decide +kernel
theorem d_Law_law_589 : decode code 589 = .ok (.iaload, 1) := by decide +kernel
theorem d_Law_law_590 : decode code 590 = .ok (.aload_n 0, 1) := by decide +kernel
theorem d_Law_law_591 : decode code 591 = .ok (.iload 4, 2) := by decide +kernel
theorem d_Law_law_593 : decode code 593 = .ok (.iconst 2, 1) := by decide +kernel
theorem d_Law_law_594 : decode code 594 = .ok (.iadd, 1) := by decide +kernel
theorem d_Law_law_595 : decode code 595 = .ok (.iaload, 1) := by decide +kernel
theorem d_Law_law_596 : decode code 596 = .ok (.aload_n 3, 1) := by decide +kernel
theorem d_Law_law_597 : decode code 597 = .ok (.invokestatic 122, 3) := by decide +kernel
theorem d_Law_law_600 : decode code 600 = .ok (.istore 5, 2) := by decide +kernel
theorem d_Law_law_602 : decode code 602 = .ok (.aload_n 2, 1) := by decide +kernel
theorem d_Law_law_603 : decode code 603 = .ok (.aload_n 0, 1) := by decide +kernel
theorem d_Law_law_604 : decode code 604 = .ok (.iload 4, 2) := by decide +kernel
theorem d_Law_law_606 : decode code 606 = .ok (.iconst 1, 1) := by decide +kernel
theorem d_Law_law_607 : decode code 607 = .ok (.iadd, 1) := by decide +kernel
theorem d_Law_law_608 : decode code 608 = .ok (.iaload, 1) := by decide +kernel
theorem d_Law_law_609 : decode code 609 = .ok (.aload_n 0, 1) := by decide +kernel
theorem d_Law_law_610 : decode code 610 = .ok (.iload 4, 2) := by decide +kernel
theorem d_Law_law_612 : decode code 612 = .ok (.iconst 2, 1) := by decide +kernel
theorem d_Law_law_613 : decode code 613 = .ok (.iadd, 1) := by decide +kernel
theorem d_Law_law_614 : decode code 614 = .ok (.iaload, 1) := by decide +kernel
theorem d_Law_law_615 : decode code 615 = .ok (.invokevirtual 124, 3) := by decide +kernel
theorem d_Law_law_618 : decode code 618 = .ok (.istore 6, 2) := by decide +kernel
theorem d_Law_law_620 : decode code 620 = .ok (.aload_n 2, 1) := by decide +kernel
theorem d_Law_law_621 : decode code 621 = .ok (.invokevirtual 86, 3) := by decide +kernel
theorem d_Law_law_624 : decode code 624 = .ok (.iload 5, 2) := by decide +kernel
theorem d_Law_law_626 : decode code 626 = .ok (.if_icmp .eq 5, 3) := by decide +kernel
theorem d_Law_law_629 : decode code 629 = .ok (.iconst 0, 1) := by decide +kernel
theorem d_Law_law_630 : decode code 630 = .ok (.ireturn, 1) := by decide +kernel
theorem d_Law_law_631 : decode code 631 = .ok (.iload 5, 2) := by decide +kernel
theorem d_Law_law_633 : decode code 633 = .ok (.ifCond .ne 15, 3) := by decide +kernel
theorem d_Law_law_636 : decode code 636 = .ok (.aload_n 3, 1) := by decide +kernel
theorem d_Law_law_637 : decode code 637 = .ok (.iconst 0, 1) := by decide +kernel
theorem d_Law_law_638 : decode code 638 = .ok (.laload, 1) := by decide +kernel
theorem d_Law_law_639 : decode code 639 = .ok (.iload 6, 2) := by decide +kernel
theorem d_Law_law_641 : decode code 641 = .ok (.i2l, 1) := by decide +kernel
theorem d_Law_law_642 : decode code 642 = .ok (.lcmp, 1) := by decide +kernel
theorem d_Law_law_643 : decode code 643 = .ok (.ifCond .eq 5, 3) := by decide +kernel
theorem d_Law_law_646 : decode code 646 = .ok (.iconst 0, 1) := by decide +kernel
theorem d_Law_law_647 : decode code 647 = .ok (.ireturn, 1) := by decide +kernel
theorem d_Law_law_648 : decode code 648 = .ok (.goto 736, 3) := by decide +kernel
theorem d_Law_law_651 : decode code 651 = .ok (.aload_n 1, 1) := by decide +kernel
theorem d_Law_law_652 : decode code 652 = .ok (.aload_n 3, 1) := by decide +kernel
theorem d_Law_law_653 : decode code 653 = .ok (.invokestatic 125, 3) := by decide +kernel
theorem d_Law_law_656 : decode code 656 = .ok (.istore 5, 2) := by decide +kernel
theorem d_Law_law_658 : decode code 658 = .ok (.aload_n 2, 1) := by decide +kernel
theorem d_Law_law_659 : decode code 659 = .ok (.invokevirtual 127, 3) := by decide +kernel
theorem d_Law_law_662 : decode code 662 = .ok (.istore 6, 2) := by decide +kernel
theorem d_Law_law_664 : decode code 664 = .ok (.aload_n 2, 1) := by decide +kernel
theorem d_Law_law_665 : decode code 665 = .ok (.invokevirtual 86, 3) := by decide +kernel
theorem d_Law_law_668 : decode code 668 = .ok (.iload 5, 2) := by decide +kernel
theorem d_Law_law_670 : decode code 670 = .ok (.if_icmp .eq 5, 3) := by decide +kernel
theorem d_Law_law_673 : decode code 673 = .ok (.iconst 0, 1) := by decide +kernel
theorem d_Law_law_674 : decode code 674 = .ok (.ireturn, 1) := by decide +kernel
theorem d_Law_law_675 : decode code 675 = .ok (.iload 5, 2) := by decide +kernel
theorem d_Law_law_677 : decode code 677 = .ok (.ifCond .ne 15, 3) := by decide +kernel
theorem d_Law_law_680 : decode code 680 = .ok (.aload_n 3, 1) := by decide +kernel
theorem d_Law_law_681 : decode code 681 = .ok (.iconst 0, 1) := by decide +kernel
theorem d_Law_law_682 : decode code 682 = .ok (.laload, 1) := by decide +kernel
theorem d_Law_law_683 : decode code 683 = .ok (.iload 6, 2) := by decide +kernel
theorem d_Law_law_685 : decode code 685 = .ok (.i2l, 1) := by decide +kernel
theorem d_Law_law_686 : decode code 686 = .ok (.lcmp, 1) := by decide +kernel
theorem d_Law_law_687 : decode code 687 = .ok (.ifCond .eq 5, 3) := by decide +kernel
theorem d_Law_law_690 : decode code 690 = .ok (.iconst 0, 1) := by decide +kernel
theorem d_Law_law_691 : decode code 691 = .ok (.ireturn, 1) := by decide +kernel
theorem d_Law_law_692 : decode code 692 = .ok (.goto 692, 3) := by decide +kernel
theorem d_Law_law_695 : decode code 695 = .ok (.aload_n 1, 1) := by decide +kernel
theorem d_Law_law_696 : decode code 696 = .ok (.aload_n 0, 1) := by decide +kernel
theorem d_Law_law_697 : decode code 697 = .ok (.iload 4, 2) := by decide +kernel
theorem d_Law_law_699 : decode code 699 = .ok (.iconst 1, 1) := by decide +kernel
theorem d_Law_law_700 : decode code 700 = .ok (.iadd, 1) := by decide +kernel
theorem d_Law_law_701 : decode code 701 = .ok (.iaload, 1) := by decide +kernel
theorem d_Law_law_702 : decode code 702 = .ok (.aload_n 3, 1) := by decide +kernel
theorem d_Law_law_703 : decode code 703 = .ok (.invokestatic 128, 3) := by decide +kernel
theorem d_Law_law_706 : decode code 706 = .ok (.istore 5, 2) := by decide +kernel
theorem d_Law_law_708 : decode code 708 = .ok (.aload_n 2, 1) := by decide +kernel
theorem d_Law_law_709 : decode code 709 = .ok (.aload_n 0, 1) := by decide +kernel
theorem d_Law_law_710 : decode code 710 = .ok (.iload 4, 2) := by decide +kernel
theorem d_Law_law_712 : decode code 712 = .ok (.iconst 1, 1) := by decide +kernel
theorem d_Law_law_713 : decode code 713 = .ok (.iadd, 1) := by decide +kernel
theorem d_Law_law_714 : decode code 714 = .ok (.iaload, 1) := by decide +kernel
theorem d_Law_law_715 : decode code 715 = .ok (.invokevirtual 130, 3) := by decide +kernel
theorem d_Law_law_718 : decode code 718 = .ok (.istore 6, 2) := by decide +kernel
theorem d_Law_law_720 : decode code 720 = .ok (.aload_n 2, 1) := by decide +kernel
theorem d_Law_law_721 : decode code 721 = .ok (.invokevirtual 86, 3) := by decide +kernel
theorem d_Law_law_724 : decode code 724 = .ok (.iload 5, 2) := by decide +kernel
theorem d_Law_law_726 : decode code 726 = .ok (.if_icmp .eq 5, 3) := by decide +kernel
theorem d_Law_law_729 : decode code 729 = .ok (.iconst 0, 1) := by decide +kernel
theorem d_Law_law_730 : decode code 730 = .ok (.ireturn, 1) := by decide +kernel
theorem d_Law_law_731 : decode code 731 = .ok (.iload 5, 2) := by decide +kernel
theorem d_Law_law_733 : decode code 733 = .ok (.ifCond .ne 15, 3) := by decide +kernel
theorem d_Law_law_736 : decode code 736 = .ok (.aload_n 3, 1) := by decide +kernel
theorem d_Law_law_737 : decode code 737 = .ok (.iconst 0, 1) := by decide +kernel
theorem d_Law_law_738 : decode code 738 = .ok (.laload, 1) := by decide +kernel
theorem d_Law_law_739 : decode code 739 = .ok (.iload 6, 2) := by decide +kernel
theorem d_Law_law_741 : decode code 741 = .ok (.i2l, 1) := by decide +kernel
theorem d_Law_law_742 : decode code 742 = .ok (.lcmp, 1) := by decide +kernel
theorem d_Law_law_743 : decode code 743 = .ok (.ifCond .eq 5, 3) := by decide +kernel
theorem d_Law_law_746 : decode code 746 = .ok (.iconst 0, 1) := by decide +kernel
theorem d_Law_law_747 : decode code 747 = .ok (.ireturn, 1) := by decide +kernel
theorem d_Law_law_748 : decode code 748 = .ok (.goto 636, 3) := by decide +kernel
theorem d_Law_law_751 : decode code 751 = .ok (.aload_n 1, 1) := by decide +kernel
theorem d_Law_law_752 : decode code 752 = .ok (.aload_n 3, 1) := by decide +kernel
theorem d_Law_law_753 : decode code 753 = .ok (.invokestatic 131, 3) := by decide +kernel
theorem d_Law_law_756 : decode code 756 = .ok (.istore 5, 2) := by decide +kernel
theorem d_Law_law_758 : decode code 758 = .ok (.aload_n 2, 1) := by decide +kernel
theorem d_Law_law_759 : decode code 759 = .ok (.invokevirtual 133, 3) := by decide +kernel
theorem d_Law_law_762 : decode code 762 = .ok (.istore 6, 2) := by decide +kernel
theorem d_Law_law_764 : decode code 764 = .ok (.aload_n 2, 1) := by decide +kernel
theorem d_Law_law_765 : decode code 765 = .ok (.invokevirtual 86, 3) := by decide +kernel
theorem d_Law_law_768 : decode code 768 = .ok (.iload 5, 2) := by decide +kernel
theorem d_Law_law_770 : decode code 770 = .ok (.if_icmp .eq 5, 3) := by decide +kernel
theorem d_Law_law_773 : decode code 773 = .ok (.iconst 0, 1) := by decide +kernel
theorem d_Law_law_774 : decode code 774 = .ok (.ireturn, 1) := by decide +kernel
theorem d_Law_law_775 : decode code 775 = .ok (.iload 5, 2) := by decide +kernel
theorem d_Law_law_777 : decode code 777 = .ok (.ifCond .ne 15, 3) := by decide +kernel
theorem d_Law_law_780 : decode code 780 = .ok (.aload_n 3, 1) := by decide +kernel
theorem d_Law_law_781 : decode code 781 = .ok (.iconst 0, 1) := by decide +kernel
theorem d_Law_law_782 : decode code 782 = .ok (.laload, 1) := by decide +kernel
theorem d_Law_law_783 : decode code 783 = .ok (.iload 6, 2) := by decide +kernel
theorem d_Law_law_785 : decode code 785 = .ok (.i2l, 1) := by decide +kernel
theorem d_Law_law_786 : decode code 786 = .ok (.lcmp, 1) := by decide +kernel
theorem d_Law_law_787 : decode code 787 = .ok (.ifCond .eq 5, 3) := by decide +kernel
theorem d_Law_law_790 : decode code 790 = .ok (.iconst 0, 1) := by decide +kernel
theorem d_Law_law_791 : decode code 791 = .ok (.ireturn, 1) := by decide +kernel
theorem d_Law_law_792 : decode code 792 = .ok (.goto 592, 3) := by decide +kernel
theorem d_Law_law_795 : decode code 795 = .ok (.aload_n 1, 1) := by decide +kernel
theorem d_Law_law_796 : decode code 796 = .ok (.aload_n 0, 1) := by decide +kernel
theorem d_Law_law_797 : decode code 797 = .ok (.iload 4, 2) := by decide +kernel
theorem d_Law_law_799 : decode code 799 = .ok (.iconst 1, 1) := by decide +kernel
theorem d_Law_law_800 : decode code 800 = .ok (.iadd, 1) := by decide +kernel
theorem d_Law_law_801 : decode code 801 = .ok (.iaload, 1) := by decide +kernel
theorem d_Law_law_802 : decode code 802 = .ok (.aload_n 3, 1) := by decide +kernel
theorem d_Law_law_803 : decode code 803 = .ok (.invokestatic 134, 3) := by decide +kernel
theorem d_Law_law_806 : decode code 806 = .ok (.istore 5, 2) := by decide +kernel
theorem d_Law_law_808 : decode code 808 = .ok (.aload_n 2, 1) := by decide +kernel
theorem d_Law_law_809 : decode code 809 = .ok (.aload_n 0, 1) := by decide +kernel
theorem d_Law_law_810 : decode code 810 = .ok (.iload 4, 2) := by decide +kernel
theorem d_Law_law_812 : decode code 812 = .ok (.iconst 1, 1) := by decide +kernel
theorem d_Law_law_813 : decode code 813 = .ok (.iadd, 1) := by decide +kernel
theorem d_Law_law_814 : decode code 814 = .ok (.iaload, 1) := by decide +kernel
theorem d_Law_law_815 : decode code 815 = .ok (.invokevirtual 136, 3) := by decide +kernel
theorem d_Law_law_818 : decode code 818 = .ok (.istore 6, 2) := by decide +kernel
theorem d_Law_law_820 : decode code 820 = .ok (.aload_n 2, 1) := by decide +kernel
theorem d_Law_law_821 : decode code 821 = .ok (.invokevirtual 86, 3) := by decide +kernel
theorem d_Law_law_824 : decode code 824 = .ok (.iload 5, 2) := by decide +kernel
theorem d_Law_law_826 : decode code 826 = .ok (.if_icmp .eq 5, 3) := by decide +kernel
theorem d_Law_law_829 : decode code 829 = .ok (.iconst 0, 1) := by decide +kernel
theorem d_Law_law_830 : decode code 830 = .ok (.ireturn, 1) := by decide +kernel
theorem d_Law_law_831 : decode code 831 = .ok (.iload 5, 2) := by decide +kernel
theorem d_Law_law_833 : decode code 833 = .ok (.ifCond .ne 15, 3) := by decide +kernel
theorem d_Law_law_836 : decode code 836 = .ok (.aload_n 3, 1) := by decide +kernel
theorem d_Law_law_837 : decode code 837 = .ok (.iconst 0, 1) := by decide +kernel
theorem d_Law_law_838 : decode code 838 = .ok (.laload, 1) := by decide +kernel
theorem d_Law_law_839 : decode code 839 = .ok (.iload 6, 2) := by decide +kernel
theorem d_Law_law_841 : decode code 841 = .ok (.i2l, 1) := by decide +kernel
theorem d_Law_law_842 : decode code 842 = .ok (.lcmp, 1) := by decide +kernel
theorem d_Law_law_843 : decode code 843 = .ok (.ifCond .eq 5, 3) := by decide +kernel
theorem d_Law_law_846 : decode code 846 = .ok (.iconst 0, 1) := by decide +kernel
theorem d_Law_law_847 : decode code 847 = .ok (.ireturn, 1) := by decide +kernel
theorem d_Law_law_848 : decode code 848 = .ok (.goto 536, 3) := by decide +kernel
theorem d_Law_law_851 : decode code 851 = .ok (.aload_n 1, 1) := by decide +kernel
theorem d_Law_law_852 : decode code 852 = .ok (.invokevirtual 137, 3) := by decide +kernel
theorem d_Law_law_855 : decode code 855 = .ok (.aload_n 2, 1) := by decide +kernel
theorem d_Law_law_856 : decode code 856 = .ok (.invokevirtual 140, 3) := by decide +kernel
theorem d_Law_law_859 : decode code 859 = .ok (.if_icmp .eq 525, 3) := by decide +kernel
theorem d_Law_law_862 : decode code 862 = .ok (.iconst 0, 1) := by decide +kernel
theorem d_Law_law_863 : decode code 863 = .ok (.ireturn, 1) := by decide +kernel
theorem d_Law_law_864 : decode code 864 = .ok (.aload_n 1, 1) := by decide +kernel
theorem d_Law_law_865 : decode code 865 = .ok (.aload_n 0, 1) := by decide +kernel
theorem d_Law_law_866 : decode code 866 = .ok (.iload 4, 2) := by decide +kernel
theorem d_Law_law_868 : decode code 868 = .ok (.iconst 1, 1) := by decide +kernel
theorem d_Law_law_869 : decode code 869 = .ok (.iadd, 1) := by decide +kernel
theorem d_Law_law_870 : decode code 870 = .ok (.iaload, 1) := by decide +kernel
theorem d_Law_law_871 : decode code 871 = .ok (.aload_n 0, 1) := by decide +kernel
theorem d_Law_law_872 : decode code 872 = .ok (.iload 4, 2) := by decide +kernel
theorem d_Law_law_874 : decode code 874 = .ok (.iconst 2, 1) := by decide +kernel
theorem d_Law_law_875 : decode code 875 = .ok (.iadd, 1) := by decide +kernel
theorem d_Law_law_876 : decode code 876 = .ok (.iaload, 1) := by decide +kernel
theorem d_Law_law_877 : decode code 877 = .ok (.aload_n 0, 1) := by decide +kernel
theorem d_Law_law_878 : decode code 878 = .ok (.iload 4, 2) := by decide +kernel
theorem d_Law_law_880 : decode code 880 = .ok (.iconst 3, 1) := by decide +kernel
theorem d_Law_law_881 : decode code 881 = .ok (.iadd, 1) := by decide +kernel
theorem d_Law_law_882 : decode code 882 = .ok (.iaload, 1) := by decide +kernel
theorem d_Law_law_883 : decode code 883 = .ok (.aload_n 0, 1) := by decide +kernel
theorem d_Law_law_884 : decode code 884 = .ok (.iload 4, 2) := by decide +kernel
theorem d_Law_law_886 : decode code 886 = .ok (.iconst 4, 1) := by decide +kernel
theorem d_Law_law_887 : decode code 887 = .ok (.iadd, 1) := by decide +kernel
theorem d_Law_law_888 : decode code 888 = .ok (.iaload, 1) := by decide +kernel
theorem d_Law_law_889 : decode code 889 = .ok (.ifCond .eq 7, 3) := by decide +kernel
theorem d_Law_law_892 : decode code 892 = .ok (.iconst 1, 1) := by decide +kernel
theorem d_Law_law_893 : decode code 893 = .ok (.goto 4, 3) := by decide +kernel
theorem d_Law_law_896 : decode code 896 = .ok (.iconst 0, 1) := by decide +kernel
theorem d_Law_law_897 : decode code 897 = .ok (.aload_n 3, 1) := by decide +kernel
theorem d_Law_law_898 : decode code 898 = .ok (.invokestatic 141, 3) := by decide +kernel
theorem d_Law_law_901 : decode code 901 = .ok (.istore 5, 2) := by decide +kernel
theorem d_Law_law_903 : decode code 903 = .ok (.aload_n 2, 1) := by decide +kernel
theorem d_Law_law_904 : decode code 904 = .ok (.aload_n 0, 1) := by decide +kernel
theorem d_Law_law_905 : decode code 905 = .ok (.iload 4, 2) := by decide +kernel
theorem d_Law_law_907 : decode code 907 = .ok (.iconst 1, 1) := by decide +kernel
theorem d_Law_law_908 : decode code 908 = .ok (.iadd, 1) := by decide +kernel
theorem d_Law_law_909 : decode code 909 = .ok (.iaload, 1) := by decide +kernel
theorem d_Law_law_910 : decode code 910 = .ok (.aload_n 0, 1) := by decide +kernel
theorem d_Law_law_911 : decode code 911 = .ok (.iload 4, 2) := by decide +kernel
theorem d_Law_law_913 : decode code 913 = .ok (.iconst 2, 1) := by decide +kernel
theorem d_Law_law_914 : decode code 914 = .ok (.iadd, 1) := by decide +kernel
theorem d_Law_law_915 : decode code 915 = .ok (.iaload, 1) := by decide +kernel
theorem d_Law_law_916 : decode code 916 = .ok (.aload_n 0, 1) := by decide +kernel
theorem d_Law_law_917 : decode code 917 = .ok (.iload 4, 2) := by decide +kernel
theorem d_Law_law_919 : decode code 919 = .ok (.iconst 3, 1) := by decide +kernel
theorem d_Law_law_920 : decode code 920 = .ok (.iadd, 1) := by decide +kernel
theorem d_Law_law_921 : decode code 921 = .ok (.iaload, 1) := by decide +kernel
theorem d_Law_law_922 : decode code 922 = .ok (.aload_n 0, 1) := by decide +kernel
theorem d_Law_law_923 : decode code 923 = .ok (.iload 4, 2) := by decide +kernel
theorem d_Law_law_925 : decode code 925 = .ok (.iconst 4, 1) := by decide +kernel
theorem d_Law_law_926 : decode code 926 = .ok (.iadd, 1) := by decide +kernel
theorem d_Law_law_927 : decode code 927 = .ok (.iaload, 1) := by decide +kernel
theorem d_Law_law_928 : decode code 928 = .ok (.ifCond .eq 7, 3) := by decide +kernel
theorem d_Law_law_931 : decode code 931 = .ok (.iconst 1, 1) := by decide +kernel
theorem d_Law_law_932 : decode code 932 = .ok (.goto 4, 3) := by decide +kernel
theorem d_Law_law_935 : decode code 935 = .ok (.iconst 0, 1) := by decide +kernel
theorem d_Law_law_936 : decode code 936 = .ok (.invokevirtual 144, 3) := by decide +kernel
theorem d_Law_law_939 : decode code 939 = .ok (.istore 6, 2) := by decide +kernel
theorem d_Law_law_941 : decode code 941 = .ok (.aload_n 2, 1) := by decide +kernel
theorem d_Law_law_942 : decode code 942 = .ok (.invokevirtual 86, 3) := by decide +kernel
theorem d_Law_law_945 : decode code 945 = .ok (.iload 5, 2) := by decide +kernel
theorem d_Law_law_947 : decode code 947 = .ok (.if_icmp .eq 5, 3) := by decide +kernel
theorem d_Law_law_950 : decode code 950 = .ok (.iconst 0, 1) := by decide +kernel
theorem d_Law_law_951 : decode code 951 = .ok (.ireturn, 1) := by decide +kernel
theorem d_Law_law_952 : decode code 952 = .ok (.iload 5, 2) := by decide +kernel
theorem d_Law_law_954 : decode code 954 = .ok (.ifCond .ne 15, 3) := by decide +kernel
theorem d_Law_law_957 : decode code 957 = .ok (.aload_n 3, 1) := by decide +kernel
theorem d_Law_law_958 : decode code 958 = .ok (.iconst 0, 1) := by decide +kernel
theorem d_Law_law_959 : decode code 959 = .ok (.laload, 1) := by decide +kernel
theorem d_Law_law_960 : decode code 960 = .ok (.iload 6, 2) := by decide +kernel
theorem d_Law_law_962 : decode code 962 = .ok (.i2l, 1) := by decide +kernel
theorem d_Law_law_963 : decode code 963 = .ok (.lcmp, 1) := by decide +kernel
theorem d_Law_law_964 : decode code 964 = .ok (.ifCond .eq 5, 3) := by decide +kernel
theorem d_Law_law_967 : decode code 967 = .ok (.iconst 0, 1) := by decide +kernel
theorem d_Law_law_968 : decode code 968 = .ok (.ireturn, 1) := by decide +kernel
theorem d_Law_law_969 : decode code 969 = .ok (.goto 415, 3) := by decide +kernel
theorem d_Law_law_972 : decode code 972 = .ok (.aload_n 1, 1) := by decide +kernel
theorem d_Law_law_973 : decode code 973 = .ok (.aload_n 0, 1) := by decide +kernel
theorem d_Law_law_974 : decode code 974 = .ok (.iload 4, 2) := by decide +kernel
theorem d_Law_law_976 : decode code 976 = .ok (.iconst 1, 1) := by decide +kernel
theorem d_Law_law_977 : decode code 977 = .ok (.iadd, 1) := by decide +kernel
theorem d_Law_law_978 : decode code 978 = .ok (.iaload, 1) := by decide +kernel
theorem d_Law_law_979 : decode code 979 = .ok (.aload_n 3, 1) := by decide +kernel
theorem d_Law_law_980 : decode code 980 = .ok (.invokestatic 145, 3) := by decide +kernel
theorem d_Law_law_983 : decode code 983 = .ok (.istore 5, 2) := by decide +kernel
theorem d_Law_law_985 : decode code 985 = .ok (.aload_n 2, 1) := by decide +kernel
theorem d_Law_law_986 : decode code 986 = .ok (.aload_n 0, 1) := by decide +kernel
theorem d_Law_law_987 : decode code 987 = .ok (.iload 4, 2) := by decide +kernel
theorem d_Law_law_989 : decode code 989 = .ok (.iconst 1, 1) := by decide +kernel
theorem d_Law_law_990 : decode code 990 = .ok (.iadd, 1) := by decide +kernel
theorem d_Law_law_991 : decode code 991 = .ok (.iaload, 1) := by decide +kernel
theorem d_Law_law_992 : decode code 992 = .ok (.invokevirtual 147, 3) := by decide +kernel
theorem d_Law_law_995 : decode code 995 = .ok (.istore 6, 2) := by decide +kernel
theorem d_Law_law_997 : decode code 997 = .ok (.aload_n 2, 1) := by decide +kernel
theorem d_Law_law_998 : decode code 998 = .ok (.invokevirtual 86, 3) := by decide +kernel
theorem d_Law_law_1001 : decode code 1001 = .ok (.iload 5, 2) := by decide +kernel
theorem d_Law_law_1003 : decode code 1003 = .ok (.if_icmp .eq 5, 3) := by decide +kernel
theorem d_Law_law_1006 : decode code 1006 = .ok (.iconst 0, 1) := by decide +kernel
theorem d_Law_law_1007 : decode code 1007 = .ok (.ireturn, 1) := by decide +kernel
theorem d_Law_law_1008 : decode code 1008 = .ok (.iload 5, 2) := by decide +kernel
theorem d_Law_law_1010 : decode code 1010 = .ok (.ifCond .ne 15, 3) := by decide +kernel
theorem d_Law_law_1013 : decode code 1013 = .ok (.aload_n 3, 1) := by decide +kernel
theorem d_Law_law_1014 : decode code 1014 = .ok (.iconst 0, 1) := by decide +kernel
theorem d_Law_law_1015 : decode code 1015 = .ok (.laload, 1) := by decide +kernel
theorem d_Law_law_1016 : decode code 1016 = .ok (.iload 6, 2) := by decide +kernel
theorem d_Law_law_1018 : decode code 1018 = .ok (.i2l, 1) := by decide +kernel
theorem d_Law_law_1019 : decode code 1019 = .ok (.lcmp, 1) := by decide +kernel
theorem d_Law_law_1020 : decode code 1020 = .ok (.ifCond .eq 5, 3) := by decide +kernel
theorem d_Law_law_1023 : decode code 1023 = .ok (.iconst 0, 1) := by decide +kernel
theorem d_Law_law_1024 : decode code 1024 = .ok (.ireturn, 1) := by decide +kernel
theorem d_Law_law_1025 : decode code 1025 = .ok (.goto 359, 3) := by decide +kernel
theorem d_Law_law_1028 : decode code 1028 = .ok (.aload_n 1, 1) := by decide +kernel
theorem d_Law_law_1029 : decode code 1029 = .ok (.aload_n 3, 1) := by decide +kernel
theorem d_Law_law_1030 : decode code 1030 = .ok (.invokestatic 148, 3) := by decide +kernel
theorem d_Law_law_1033 : decode code 1033 = .ok (.istore 5, 2) := by decide +kernel
theorem d_Law_law_1035 : decode code 1035 = .ok (.aload_n 2, 1) := by decide +kernel
theorem d_Law_law_1036 : decode code 1036 = .ok (.invokevirtual 150, 3) := by decide +kernel
theorem d_Law_law_1039 : decode code 1039 = .ok (.istore 6, 2) := by decide +kernel
theorem d_Law_law_1041 : decode code 1041 = .ok (.aload_n 2, 1) := by decide +kernel
theorem d_Law_law_1042 : decode code 1042 = .ok (.invokevirtual 86, 3) := by decide +kernel
theorem d_Law_law_1045 : decode code 1045 = .ok (.iload 5, 2) := by decide +kernel
theorem d_Law_law_1047 : decode code 1047 = .ok (.if_icmp .eq 5, 3) := by decide +kernel
theorem d_Law_law_1050 : decode code 1050 = .ok (.iconst 0, 1) := by decide +kernel
theorem d_Law_law_1051 : decode code 1051 = .ok (.ireturn, 1) := by decide +kernel
theorem d_Law_law_1052 : decode code 1052 = .ok (.iload 5, 2) := by decide +kernel
theorem d_Law_law_1054 : decode code 1054 = .ok (.ifCond .ne 15, 3) := by decide +kernel
theorem d_Law_law_1057 : decode code 1057 = .ok (.aload_n 3, 1) := by decide +kernel
theorem d_Law_law_1058 : decode code 1058 = .ok (.iconst 0, 1) := by decide +kernel
theorem d_Law_law_1059 : decode code 1059 = .ok (.laload, 1) := by decide +kernel
theorem d_Law_law_1060 : decode code 1060 = .ok (.iload 6, 2) := by decide +kernel
theorem d_Law_law_1062 : decode code 1062 = .ok (.i2l, 1) := by decide +kernel
theorem d_Law_law_1063 : decode code 1063 = .ok (.lcmp, 1) := by decide +kernel
theorem d_Law_law_1064 : decode code 1064 = .ok (.ifCond .eq 5, 3) := by decide +kernel
theorem d_Law_law_1067 : decode code 1067 = .ok (.iconst 0, 1) := by decide +kernel
theorem d_Law_law_1068 : decode code 1068 = .ok (.ireturn, 1) := by decide +kernel
theorem d_Law_law_1069 : decode code 1069 = .ok (.goto 315, 3) := by decide +kernel
theorem d_Law_law_1072 : decode code 1072 = .ok (.aload_n 1, 1) := by decide +kernel
theorem d_Law_law_1073 : decode code 1073 = .ok (.aload_n 0, 1) := by decide +kernel
theorem d_Law_law_1074 : decode code 1074 = .ok (.iload 4, 2) := by decide +kernel
theorem d_Law_law_1076 : decode code 1076 = .ok (.iconst 1, 1) := by decide +kernel
theorem d_Law_law_1077 : decode code 1077 = .ok (.iadd, 1) := by decide +kernel
theorem d_Law_law_1078 : decode code 1078 = .ok (.iaload, 1) := by decide +kernel
theorem d_Law_law_1079 : decode code 1079 = .ok (.aload_n 0, 1) := by decide +kernel
theorem d_Law_law_1080 : decode code 1080 = .ok (.iload 4, 2) := by decide +kernel
theorem d_Law_law_1082 : decode code 1082 = .ok (.iconst 2, 1) := by decide +kernel
theorem d_Law_law_1083 : decode code 1083 = .ok (.iadd, 1) := by decide +kernel
theorem d_Law_law_1084 : decode code 1084 = .ok (.iaload, 1) := by decide +kernel
theorem d_Law_law_1085 : decode code 1085 = .ok (.i2l, 1) := by decide +kernel
theorem d_Law_law_1086 : decode code 1086 = .ok (.bipush 32, 2) := by decide +kernel
theorem d_Law_law_1088 : decode code 1088 = .ok (.lshl, 1) := by decide +kernel
theorem d_Law_law_1089 : decode code 1089 = .ok (.aload_n 0, 1) := by decide +kernel
theorem d_Law_law_1090 : decode code 1090 = .ok (.iload 4, 2) := by decide +kernel
theorem d_Law_law_1092 : decode code 1092 = .ok (.iconst 3, 1) := by decide +kernel
theorem d_Law_law_1093 : decode code 1093 = .ok (.iadd, 1) := by decide +kernel
theorem d_Law_law_1094 : decode code 1094 = .ok (.iaload, 1) := by decide +kernel
theorem d_Law_law_1095 : decode code 1095 = .ok (.i2l, 1) := by decide +kernel
theorem d_Law_law_1096 : decode code 1096 = .ok (.ldc2_w 115, 3) := by decide +kernel
theorem d_Law_law_1099 : decode code 1099 = .ok (.land, 1) := by decide +kernel
theorem d_Law_law_1100 : decode code 1100 = .ok (.lor, 1) := by decide +kernel
theorem d_Law_law_1101 : decode code 1101 = .ok (.aload_n 3, 1) := by decide +kernel
theorem d_Law_law_1102 : decode code 1102 = .ok (.invokestatic 151, 3) := by decide +kernel
theorem d_Law_law_1105 : decode code 1105 = .ok (.istore 5, 2) := by decide +kernel
theorem d_Law_law_1107 : decode code 1107 = .ok (.aload_n 2, 1) := by decide +kernel
theorem d_Law_law_1108 : decode code 1108 = .ok (.aload_n 0, 1) := by decide +kernel
theorem d_Law_law_1109 : decode code 1109 = .ok (.iload 4, 2) := by decide +kernel
theorem d_Law_law_1111 : decode code 1111 = .ok (.iconst 1, 1) := by decide +kernel
theorem d_Law_law_1112 : decode code 1112 = .ok (.iadd, 1) := by decide +kernel
theorem d_Law_law_1113 : decode code 1113 = .ok (.iaload, 1) := by decide +kernel
theorem d_Law_law_1114 : decode code 1114 = .ok (.aload_n 0, 1) := by decide +kernel
theorem d_Law_law_1115 : decode code 1115 = .ok (.iload 4, 2) := by decide +kernel
theorem d_Law_law_1117 : decode code 1117 = .ok (.iconst 2, 1) := by decide +kernel
theorem d_Law_law_1118 : decode code 1118 = .ok (.iadd, 1) := by decide +kernel
theorem d_Law_law_1119 : decode code 1119 = .ok (.iaload, 1) := by decide +kernel
theorem d_Law_law_1120 : decode code 1120 = .ok (.i2l, 1) := by decide +kernel
theorem d_Law_law_1121 : decode code 1121 = .ok (.bipush 32, 2) := by decide +kernel
theorem d_Law_law_1123 : decode code 1123 = .ok (.lshl, 1) := by decide +kernel
theorem d_Law_law_1124 : decode code 1124 = .ok (.aload_n 0, 1) := by decide +kernel
theorem d_Law_law_1125 : decode code 1125 = .ok (.iload 4, 2) := by decide +kernel
theorem d_Law_law_1127 : decode code 1127 = .ok (.iconst 3, 1) := by decide +kernel
theorem d_Law_law_1128 : decode code 1128 = .ok (.iadd, 1) := by decide +kernel
theorem d_Law_law_1129 : decode code 1129 = .ok (.iaload, 1) := by decide +kernel
theorem d_Law_law_1130 : decode code 1130 = .ok (.i2l, 1) := by decide +kernel
theorem d_Law_law_1131 : decode code 1131 = .ok (.ldc2_w 115, 3) := by decide +kernel
theorem d_Law_law_1134 : decode code 1134 = .ok (.land, 1) := by decide +kernel
theorem d_Law_law_1135 : decode code 1135 = .ok (.lor, 1) := by decide +kernel
theorem d_Law_law_1136 : decode code 1136 = .ok (.invokevirtual 154, 3) := by decide +kernel
theorem d_Law_law_1139 : decode code 1139 = .ok (.istore 6, 2) := by decide +kernel
theorem d_Law_law_1141 : decode code 1141 = .ok (.aload_n 2, 1) := by decide +kernel
theorem d_Law_law_1142 : decode code 1142 = .ok (.invokevirtual 86, 3) := by decide +kernel
theorem d_Law_law_1145 : decode code 1145 = .ok (.iload 5, 2) := by decide +kernel
theorem d_Law_law_1147 : decode code 1147 = .ok (.if_icmp .eq 5, 3) := by decide +kernel
theorem d_Law_law_1150 : decode code 1150 = .ok (.iconst 0, 1) := by decide +kernel
theorem d_Law_law_1151 : decode code 1151 = .ok (.ireturn, 1) := by decide +kernel
theorem d_Law_law_1152 : decode code 1152 = .ok (.iload 5, 2) := by decide +kernel
theorem d_Law_law_1154 : decode code 1154 = .ok (.ifCond .ne 15, 3) := by decide +kernel
theorem d_Law_law_1157 : decode code 1157 = .ok (.aload_n 3, 1) := by decide +kernel
theorem d_Law_law_1158 : decode code 1158 = .ok (.iconst 0, 1) := by decide +kernel
theorem d_Law_law_1159 : decode code 1159 = .ok (.laload, 1) := by decide +kernel
theorem d_Law_law_1160 : decode code 1160 = .ok (.iload 6, 2) := by decide +kernel
theorem d_Law_law_1162 : decode code 1162 = .ok (.i2l, 1) := by decide +kernel
theorem d_Law_law_1163 : decode code 1163 = .ok (.lcmp, 1) := by decide +kernel
theorem d_Law_law_1164 : decode code 1164 = .ok (.ifCond .eq 5, 3) := by decide +kernel
theorem d_Law_law_1167 : decode code 1167 = .ok (.iconst 0, 1) := by decide +kernel
theorem d_Law_law_1168 : decode code 1168 = .ok (.ireturn, 1) := by decide +kernel
theorem d_Law_law_1169 : decode code 1169 = .ok (.goto 215, 3) := by decide +kernel
theorem d_Law_law_1172 : decode code 1172 = .ok (.aload_n 1, 1) := by decide +kernel
theorem d_Law_law_1173 : decode code 1173 = .ok (.aload_n 0, 1) := by decide +kernel
theorem d_Law_law_1174 : decode code 1174 = .ok (.iload 4, 2) := by decide +kernel
theorem d_Law_law_1176 : decode code 1176 = .ok (.iconst 1, 1) := by decide +kernel
theorem d_Law_law_1177 : decode code 1177 = .ok (.iadd, 1) := by decide +kernel
theorem d_Law_law_1178 : decode code 1178 = .ok (.iaload, 1) := by decide +kernel
theorem d_Law_law_1179 : decode code 1179 = .ok (.i2l, 1) := by decide +kernel
theorem d_Law_law_1180 : decode code 1180 = .ok (.bipush 32, 2) := by decide +kernel
theorem d_Law_law_1182 : decode code 1182 = .ok (.lshl, 1) := by decide +kernel
theorem d_Law_law_1183 : decode code 1183 = .ok (.aload_n 0, 1) := by decide +kernel
theorem d_Law_law_1184 : decode code 1184 = .ok (.iload 4, 2) := by decide +kernel
theorem d_Law_law_1186 : decode code 1186 = .ok (.iconst 2, 1) := by decide +kernel
theorem d_Law_law_1187 : decode code 1187 = .ok (.iadd, 1) := by decide +kernel
theorem d_Law_law_1188 : decode code 1188 = .ok (.iaload, 1) := by decide +kernel
theorem d_Law_law_1189 : decode code 1189 = .ok (.i2l, 1) := by decide +kernel
theorem d_Law_law_1190 : decode code 1190 = .ok (.ldc2_w 115, 3) := by decide +kernel
theorem d_Law_law_1193 : decode code 1193 = .ok (.land, 1) := by decide +kernel
theorem d_Law_law_1194 : decode code 1194 = .ok (.lor, 1) := by decide +kernel
theorem d_Law_law_1195 : decode code 1195 = .ok (.aload_n 0, 1) := by decide +kernel
theorem d_Law_law_1196 : decode code 1196 = .ok (.iload 4, 2) := by decide +kernel
theorem d_Law_law_1198 : decode code 1198 = .ok (.iconst 3, 1) := by decide +kernel
theorem d_Law_law_1199 : decode code 1199 = .ok (.iadd, 1) := by decide +kernel
theorem d_Law_law_1200 : decode code 1200 = .ok (.iaload, 1) := by decide +kernel
theorem d_Law_law_1201 : decode code 1201 = .ok (.aload_n 3, 1) := by decide +kernel
theorem d_Law_law_1202 : decode code 1202 = .ok (.invokestatic 155, 3) := by decide +kernel
theorem d_Law_law_1205 : decode code 1205 = .ok (.istore 5, 2) := by decide +kernel
theorem d_Law_law_1207 : decode code 1207 = .ok (.aload_n 2, 1) := by decide +kernel
theorem d_Law_law_1208 : decode code 1208 = .ok (.aload_n 0, 1) := by decide +kernel
theorem d_Law_law_1209 : decode code 1209 = .ok (.iload 4, 2) := by decide +kernel
theorem d_Law_law_1211 : decode code 1211 = .ok (.iconst 1, 1) := by decide +kernel
theorem d_Law_law_1212 : decode code 1212 = .ok (.iadd, 1) := by decide +kernel
theorem d_Law_law_1213 : decode code 1213 = .ok (.iaload, 1) := by decide +kernel
theorem d_Law_law_1214 : decode code 1214 = .ok (.i2l, 1) := by decide +kernel
theorem d_Law_law_1215 : decode code 1215 = .ok (.bipush 32, 2) := by decide +kernel
theorem d_Law_law_1217 : decode code 1217 = .ok (.lshl, 1) := by decide +kernel
theorem d_Law_law_1218 : decode code 1218 = .ok (.aload_n 0, 1) := by decide +kernel
theorem d_Law_law_1219 : decode code 1219 = .ok (.iload 4, 2) := by decide +kernel
theorem d_Law_law_1221 : decode code 1221 = .ok (.iconst 2, 1) := by decide +kernel
theorem d_Law_law_1222 : decode code 1222 = .ok (.iadd, 1) := by decide +kernel
theorem d_Law_law_1223 : decode code 1223 = .ok (.iaload, 1) := by decide +kernel
theorem d_Law_law_1224 : decode code 1224 = .ok (.i2l, 1) := by decide +kernel
theorem d_Law_law_1225 : decode code 1225 = .ok (.ldc2_w 115, 3) := by decide +kernel
theorem d_Law_law_1228 : decode code 1228 = .ok (.land, 1) := by decide +kernel
theorem d_Law_law_1229 : decode code 1229 = .ok (.lor, 1) := by decide +kernel
theorem d_Law_law_1230 : decode code 1230 = .ok (.aload_n 0, 1) := by decide +kernel
theorem d_Law_law_1231 : decode code 1231 = .ok (.iload 4, 2) := by decide +kernel
theorem d_Law_law_1233 : decode code 1233 = .ok (.iconst 3, 1) := by decide +kernel
theorem d_Law_law_1234 : decode code 1234 = .ok (.iadd, 1) := by decide +kernel
theorem d_Law_law_1235 : decode code 1235 = .ok (.iaload, 1) := by decide +kernel
theorem d_Law_law_1236 : decode code 1236 = .ok (.invokevirtual 158, 3) := by decide +kernel
theorem d_Law_law_1239 : decode code 1239 = .ok (.istore 6, 2) := by decide +kernel
theorem d_Law_law_1241 : decode code 1241 = .ok (.aload_n 2, 1) := by decide +kernel
theorem d_Law_law_1242 : decode code 1242 = .ok (.invokevirtual 86, 3) := by decide +kernel
theorem d_Law_law_1245 : decode code 1245 = .ok (.iload 5, 2) := by decide +kernel
theorem d_Law_law_1247 : decode code 1247 = .ok (.if_icmp .eq 5, 3) := by decide +kernel
theorem d_Law_law_1250 : decode code 1250 = .ok (.iconst 0, 1) := by decide +kernel
theorem d_Law_law_1251 : decode code 1251 = .ok (.ireturn, 1) := by decide +kernel
theorem d_Law_law_1252 : decode code 1252 = .ok (.iload 5, 2) := by decide +kernel
theorem d_Law_law_1254 : decode code 1254 = .ok (.ifCond .ne 15, 3) := by decide +kernel
theorem d_Law_law_1257 : decode code 1257 = .ok (.aload_n 3, 1) := by decide +kernel
theorem d_Law_law_1258 : decode code 1258 = .ok (.iconst 0, 1) := by decide +kernel
theorem d_Law_law_1259 : decode code 1259 = .ok (.laload, 1) := by decide +kernel
theorem d_Law_law_1260 : decode code 1260 = .ok (.iload 6, 2) := by decide +kernel
theorem d_Law_law_1262 : decode code 1262 = .ok (.i2l, 1) := by decide +kernel
theorem d_Law_law_1263 : decode code 1263 = .ok (.lcmp, 1) := by decide +kernel
theorem d_Law_law_1264 : decode code 1264 = .ok (.ifCond .eq 5, 3) := by decide +kernel
theorem d_Law_law_1267 : decode code 1267 = .ok (.iconst 0, 1) := by decide +kernel
theorem d_Law_law_1268 : decode code 1268 = .ok (.ireturn, 1) := by decide +kernel
theorem d_Law_law_1269 : decode code 1269 = .ok (.goto 115, 3) := by decide +kernel
theorem d_Law_law_1272 : decode code 1272 = .ok (.aload_n 1, 1) := by decide +kernel
theorem d_Law_law_1273 : decode code 1273 = .ok (.aload_n 0, 1) := by decide +kernel
theorem d_Law_law_1274 : decode code 1274 = .ok (.iload 4, 2) := by decide +kernel
theorem d_Law_law_1276 : decode code 1276 = .ok (.iconst 1, 1) := by decide +kernel
theorem d_Law_law_1277 : decode code 1277 = .ok (.iadd, 1) := by decide +kernel
theorem d_Law_law_1278 : decode code 1278 = .ok (.iaload, 1) := by decide +kernel
theorem d_Law_law_1279 : decode code 1279 = .ok (.aload_n 3, 1) := by decide +kernel
theorem d_Law_law_1280 : decode code 1280 = .ok (.invokestatic 159, 3) := by decide +kernel
theorem d_Law_law_1283 : decode code 1283 = .ok (.istore 5, 2) := by decide +kernel
theorem d_Law_law_1285 : decode code 1285 = .ok (.aload_n 2, 1) := by decide +kernel
theorem d_Law_law_1286 : decode code 1286 = .ok (.aload_n 0, 1) := by decide +kernel
theorem d_Law_law_1287 : decode code 1287 = .ok (.iload 4, 2) := by decide +kernel
theorem d_Law_law_1289 : decode code 1289 = .ok (.iconst 1, 1) := by decide +kernel
theorem d_Law_law_1290 : decode code 1290 = .ok (.iadd, 1) := by decide +kernel
theorem d_Law_law_1291 : decode code 1291 = .ok (.iaload, 1) := by decide +kernel
theorem d_Law_law_1292 : decode code 1292 = .ok (.invokevirtual 161, 3) := by decide +kernel
theorem d_Law_law_1295 : decode code 1295 = .ok (.istore 6, 2) := by decide +kernel
theorem d_Law_law_1297 : decode code 1297 = .ok (.aload_n 2, 1) := by decide +kernel
theorem d_Law_law_1298 : decode code 1298 = .ok (.invokevirtual 86, 3) := by decide +kernel
theorem d_Law_law_1301 : decode code 1301 = .ok (.iload 5, 2) := by decide +kernel
theorem d_Law_law_1303 : decode code 1303 = .ok (.if_icmp .eq 5, 3) := by decide +kernel
theorem d_Law_law_1306 : decode code 1306 = .ok (.iconst 0, 1) := by decide +kernel
theorem d_Law_law_1307 : decode code 1307 = .ok (.ireturn, 1) := by decide +kernel
theorem d_Law_law_1308 : decode code 1308 = .ok (.iload 5, 2) := by decide +kernel
theorem d_Law_law_1310 : decode code 1310 = .ok (.ifCond .ne 15, 3) := by decide +kernel
theorem d_Law_law_1313 : decode code 1313 = .ok (.aload_n 3, 1) := by decide +kernel
theorem d_Law_law_1314 : decode code 1314 = .ok (.iconst 0, 1) := by decide +kernel
theorem d_Law_law_1315 : decode code 1315 = .ok (.laload, 1) := by decide +kernel
theorem d_Law_law_1316 : decode code 1316 = .ok (.iload 6, 2) := by decide +kernel
theorem d_Law_law_1318 : decode code 1318 = .ok (.i2l, 1) := by decide +kernel
theorem d_Law_law_1319 : decode code 1319 = .ok (.lcmp, 1) := by decide +kernel
theorem d_Law_law_1320 : decode code 1320 = .ok (.ifCond .eq 5, 3) := by decide +kernel
theorem d_Law_law_1323 : decode code 1323 = .ok (.iconst 0, 1) := by decide +kernel
theorem d_Law_law_1324 : decode code 1324 = .ok (.ireturn, 1) := by decide +kernel
theorem d_Law_law_1325 : decode code 1325 = .ok (.goto 59, 3) := by decide +kernel
theorem d_Law_law_1328 : decode code 1328 = .ok (.aload_n 1, 1) := by decide +kernel
theorem d_Law_law_1329 : decode code 1329 = .ok (.aload_n 0, 1) := by decide +kernel
theorem d_Law_law_1330 : decode code 1330 = .ok (.iload 4, 2) := by decide +kernel
theorem d_Law_law_1332 : decode code 1332 = .ok (.iconst 1, 1) := by decide +kernel
theorem d_Law_law_1333 : decode code 1333 = .ok (.iadd, 1) := by decide +kernel
theorem d_Law_law_1334 : decode code 1334 = .ok (.iaload, 1) := by decide +kernel
theorem d_Law_law_1335 : decode code 1335 = .ok (.aload_n 3, 1) := by decide +kernel
theorem d_Law_law_1336 : decode code 1336 = .ok (.invokestatic 162, 3) := by decide +kernel
theorem d_Law_law_1339 : decode code 1339 = .ok (.istore 5, 2) := by decide +kernel
theorem d_Law_law_1341 : decode code 1341 = .ok (.aload_n 2, 1) := by decide +kernel
theorem d_Law_law_1342 : decode code 1342 = .ok (.aload_n 0, 1) := by decide +kernel
theorem d_Law_law_1343 : decode code 1343 = .ok (.iload 4, 2) := by decide +kernel
theorem d_Law_law_1345 : decode code 1345 = .ok (.iconst 1, 1) := by decide +kernel
theorem d_Law_law_1346 : decode code 1346 = .ok (.iadd, 1) := by decide +kernel
theorem d_Law_law_1347 : decode code 1347 = .ok (.iaload, 1) := by decide +kernel
theorem d_Law_law_1348 : decode code 1348 = .ok (.invokevirtual 164, 3) := by decide +kernel
theorem d_Law_law_1351 : decode code 1351 = .ok (.istore 6, 2) := by decide +kernel
theorem d_Law_law_1353 : decode code 1353 = .ok (.aload_n 2, 1) := by decide +kernel
theorem d_Law_law_1354 : decode code 1354 = .ok (.invokevirtual 86, 3) := by decide +kernel
theorem d_Law_law_1357 : decode code 1357 = .ok (.iload 5, 2) := by decide +kernel
theorem d_Law_law_1359 : decode code 1359 = .ok (.if_icmp .eq 5, 3) := by decide +kernel
theorem d_Law_law_1362 : decode code 1362 = .ok (.iconst 0, 1) := by decide +kernel
theorem d_Law_law_1363 : decode code 1363 = .ok (.ireturn, 1) := by decide +kernel
theorem d_Law_law_1364 : decode code 1364 = .ok (.iload 5, 2) := by decide +kernel
theorem d_Law_law_1366 : decode code 1366 = .ok (.ifCond .ne 15, 3) := by decide +kernel
theorem d_Law_law_1369 : decode code 1369 = .ok (.aload_n 3, 1) := by decide +kernel
theorem d_Law_law_1370 : decode code 1370 = .ok (.iconst 0, 1) := by decide +kernel
theorem d_Law_law_1371 : decode code 1371 = .ok (.laload, 1) := by decide +kernel
theorem d_Law_law_1372 : decode code 1372 = .ok (.iload 6, 2) := by decide +kernel
theorem d_Law_law_1374 : decode code 1374 = .ok (.i2l, 1) := by decide +kernel
theorem d_Law_law_1375 : decode code 1375 = .ok (.lcmp, 1) := by decide +kernel
theorem d_Law_law_1376 : decode code 1376 = .ok (.ifCond .eq 5, 3) := by decide +kernel
theorem d_Law_law_1379 : decode code 1379 = .ok (.iconst 0, 1) := by decide +kernel
theorem d_Law_law_1380 : decode code 1380 = .ok (.ireturn, 1) := by decide +kernel
theorem d_Law_law_1381 : decode code 1381 = .ok (.goto 3, 3) := by decide +kernel
theorem d_Law_law_1384 : decode code 1384 = .ok (.iinc 4 5, 3) := by decide +kernel
theorem d_Law_law_1387 : decode code 1387 = .ok (.goto (-1364), 3) := by decide +kernel
theorem d_Law_law_1390 : decode code 1390 = .ok (.iconst 1, 1) := by decide +kernel
theorem d_Law_law_1391 : decode code 1391 = .ok (.ireturn, 1) := by decide +kernel
theorem w_437 : Cond.methodLink "DropSignalsLaw" 80 ⟨"DropSignalsLaw", "append", "(LDropSignals;I[J)I"⟩ ∈ gWs := gWs_in (i := 437) (by decide +kernel) rfl
theorem w_1026 : Cond.methodLink "DropSignalsLaw" 85 ⟨"DropSignalsModel", "append", "(I)I"⟩ ∈ gWs := gWs_in (i := 1026) (by decide +kernel) rfl
theorem w_1022 : Cond.methodLink "DropSignalsLaw" 86 ⟨"DropSignalsModel", "thrown", "()I"⟩ ∈ gWs := gWs_in (i := 1022) (by decide +kernel) rfl
theorem w_288 : Cond.methodLink "DropSignalsLaw" 89 ⟨"DropSignals", "clearText", "()I"⟩ ∈ gWs := gWs_in (i := 288) (by decide +kernel) rfl
theorem w_1038 : Cond.methodLink "DropSignalsLaw" 92 ⟨"DropSignalsModel", "clearText", "()I"⟩ ∈ gWs := gWs_in (i := 1038) (by decide +kernel) rfl
theorem w_296 : Cond.methodLink "DropSignalsLaw" 93 ⟨"DropSignals", "errorPosition", "()I"⟩ ∈ gWs := gWs_in (i := 296) (by decide +kernel) rfl
theorem w_1042 : Cond.methodLink "DropSignalsLaw" 96 ⟨"DropSignalsModel", "errorPosition", "()I"⟩ ∈ gWs := gWs_in (i := 1042) (by decide +kernel) rfl
theorem w_539 : Cond.methodLink "DropSignalsLaw" 97 ⟨"DropSignalsLaw", "load", "(LDropSignals;[J)I"⟩ ∈ gWs := gWs_in (i := 539) (by decide +kernel) rfl
theorem w_1132 : Cond.methodLink "DropSignalsLaw" 100 ⟨"DropSignalsModel", "load", "()I"⟩ ∈ gWs := gWs_in (i := 1132) (by decide +kernel) rfl
theorem w_653 : Cond.methodLink "DropSignalsLaw" 101 ⟨"DropSignalsLaw", "about", "(LDropSignals;I[J)I"⟩ ∈ gWs := gWs_in (i := 653) (by decide +kernel) rfl
theorem w_1139 : Cond.methodLink "DropSignalsLaw" 103 ⟨"DropSignalsModel", "about", "(I)I"⟩ ∈ gWs := gWs_in (i := 1139) (by decide +kernel) rfl
theorem w_668 : Cond.methodLink "DropSignalsLaw" 104 ⟨"DropSignalsLaw", "cardOf", "(LDropSignals;II[J)I"⟩ ∈ gWs := gWs_in (i := 668) (by decide +kernel) rfl
theorem w_1144 : Cond.methodLink "DropSignalsLaw" 107 ⟨"DropSignalsModel", "cardOf", "(II)I"⟩ ∈ gWs := gWs_in (i := 1144) (by decide +kernel) rfl
theorem w_701 : Cond.methodLink "DropSignalsLaw" 108 ⟨"DropSignalsLaw", "suitOf", "(LDropSignals;III[J)I"⟩ ∈ gWs := gWs_in (i := 701) (by decide +kernel) rfl
theorem w_1150 : Cond.methodLink "DropSignalsLaw" 111 ⟨"DropSignalsModel", "suitOf", "(III)I"⟩ ∈ gWs := gWs_in (i := 1150) (by decide +kernel) rfl
theorem w_724 : Cond.methodLink "DropSignalsLaw" 112 ⟨"DropSignalsLaw", "trick", "(LDropSignals;I[J)I"⟩ ∈ gWs := gWs_in (i := 724) (by decide +kernel) rfl
theorem w_1156 : Cond.methodLink "DropSignalsLaw" 114 ⟨"DropSignalsModel", "trick", "(I)I"⟩ ∈ gWs := gWs_in (i := 1156) (by decide +kernel) rfl
theorem w_1267 : Cond.constantLong "DropSignalsLaw" 115 (4294967295) ∈ gWs := gWs_in (i := 1267) (by decide +kernel) rfl
theorem w_318 : Cond.methodLink "DropSignalsLaw" 117 ⟨"DropSignals", "deal", "(J)I"⟩ ∈ gWs := gWs_in (i := 318) (by decide +kernel) rfl
theorem w_1160 : Cond.methodLink "DropSignalsLaw" 121 ⟨"DropSignalsModel", "deal", "(J)I"⟩ ∈ gWs := gWs_in (i := 1160) (by decide +kernel) rfl
theorem w_736 : Cond.methodLink "DropSignalsLaw" 122 ⟨"DropSignalsLaw", "bid", "(LDropSignals;II[J)I"⟩ ∈ gWs := gWs_in (i := 736) (by decide +kernel) rfl
theorem w_1168 : Cond.methodLink "DropSignalsLaw" 124 ⟨"DropSignalsModel", "bid", "(II)I"⟩ ∈ gWs := gWs_in (i := 1168) (by decide +kernel) rfl
theorem w_748 : Cond.methodLink "DropSignalsLaw" 125 ⟨"DropSignalsLaw", "pass", "(LDropSignals;[J)I"⟩ ∈ gWs := gWs_in (i := 748) (by decide +kernel) rfl
theorem w_1176 : Cond.methodLink "DropSignalsLaw" 127 ⟨"DropSignalsModel", "pass", "()I"⟩ ∈ gWs := gWs_in (i := 1176) (by decide +kernel) rfl
theorem w_757 : Cond.methodLink "DropSignalsLaw" 128 ⟨"DropSignalsLaw", "play", "(LDropSignals;I[J)I"⟩ ∈ gWs := gWs_in (i := 757) (by decide +kernel) rfl
theorem w_1180 : Cond.methodLink "DropSignalsLaw" 130 ⟨"DropSignalsModel", "play", "(I)I"⟩ ∈ gWs := gWs_in (i := 1180) (by decide +kernel) rfl
theorem w_771 : Cond.methodLink "DropSignalsLaw" 131 ⟨"DropSignalsLaw", "undo", "(LDropSignals;[J)I"⟩ ∈ gWs := gWs_in (i := 771) (by decide +kernel) rfl
theorem w_1184 : Cond.methodLink "DropSignalsLaw" 133 ⟨"DropSignalsModel", "undo", "()I"⟩ ∈ gWs := gWs_in (i := 1184) (by decide +kernel) rfl
theorem w_787 : Cond.methodLink "DropSignalsLaw" 134 ⟨"DropSignalsLaw", "legal", "(LDropSignals;I[J)I"⟩ ∈ gWs := gWs_in (i := 787) (by decide +kernel) rfl
theorem w_1188 : Cond.methodLink "DropSignalsLaw" 136 ⟨"DropSignalsModel", "legal", "(I)I"⟩ ∈ gWs := gWs_in (i := 1188) (by decide +kernel) rfl
theorem w_374 : Cond.methodLink "DropSignalsLaw" 137 ⟨"DropSignals", "advice", "()I"⟩ ∈ gWs := gWs_in (i := 374) (by decide +kernel) rfl
theorem w_1196 : Cond.methodLink "DropSignalsLaw" 140 ⟨"DropSignalsModel", "advice", "()I"⟩ ∈ gWs := gWs_in (i := 1196) (by decide +kernel) rfl
theorem w_798 : Cond.methodLink "DropSignalsLaw" 141 ⟨"DropSignalsLaw", "mayHave", "(LDropSignals;IIIZ[J)I"⟩ ∈ gWs := gWs_in (i := 798) (by decide +kernel) rfl
theorem w_1200 : Cond.methodLink "DropSignalsLaw" 144 ⟨"DropSignalsModel", "mayHave", "(IIIZ)I"⟩ ∈ gWs := gWs_in (i := 1200) (by decide +kernel) rfl
theorem w_821 : Cond.methodLink "DropSignalsLaw" 145 ⟨"DropSignalsLaw", "most", "(LDropSignals;I[J)I"⟩ ∈ gWs := gWs_in (i := 821) (by decide +kernel) rfl
theorem w_1207 : Cond.methodLink "DropSignalsLaw" 147 ⟨"DropSignalsModel", "most", "(I)I"⟩ ∈ gWs := gWs_in (i := 1207) (by decide +kernel) rfl
theorem w_877 : Cond.methodLink "DropSignalsLaw" 148 ⟨"DropSignalsLaw", "bestCard", "(LDropSignals;[J)I"⟩ ∈ gWs := gWs_in (i := 877) (by decide +kernel) rfl
theorem w_1226 : Cond.methodLink "DropSignalsLaw" 150 ⟨"DropSignalsModel", "bestCard", "()I"⟩ ∈ gWs := gWs_in (i := 1226) (by decide +kernel) rfl
theorem w_888 : Cond.methodLink "DropSignalsLaw" 151 ⟨"DropSignalsLaw", "runScript", "(LDropSignals;IJ[J)I"⟩ ∈ gWs := gWs_in (i := 888) (by decide +kernel) rfl
theorem w_1230 : Cond.methodLink "DropSignalsLaw" 154 ⟨"DropSignalsModel", "runScript", "(IJ)I"⟩ ∈ gWs := gWs_in (i := 1230) (by decide +kernel) rfl
theorem w_915 : Cond.methodLink "DropSignalsLaw" 155 ⟨"DropSignalsLaw", "simulate", "(LDropSignals;JI[J)I"⟩ ∈ gWs := gWs_in (i := 915) (by decide +kernel) rfl
theorem w_1247 : Cond.methodLink "DropSignalsLaw" 158 ⟨"DropSignalsModel", "simulate", "(JI)I"⟩ ∈ gWs := gWs_in (i := 1247) (by decide +kernel) rfl
theorem w_933 : Cond.methodLink "DropSignalsLaw" 159 ⟨"DropSignalsLaw", "save", "(LDropSignals;I[J)I"⟩ ∈ gWs := gWs_in (i := 933) (by decide +kernel) rfl
theorem w_1259 : Cond.methodLink "DropSignalsLaw" 161 ⟨"DropSignalsModel", "save", "(I)I"⟩ ∈ gWs := gWs_in (i := 1259) (by decide +kernel) rfl
theorem w_945 : Cond.methodLink "DropSignalsLaw" 162 ⟨"DropSignalsLaw", "restore", "(LDropSignals;I[J)I"⟩ ∈ gWs := gWs_in (i := 945) (by decide +kernel) rfl
theorem w_1263 : Cond.methodLink "DropSignalsLaw" 164 ⟨"DropSignalsModel", "restore", "(I)I"⟩ ∈ gWs := gWs_in (i := 1263) (by decide +kernel) rfl
noncomputable def f_law_c0 (Ls : Nat) (xs : Nat → Int32) (M : gMem) (x4 : Int32) : Option gMem :=
  (gSc Ls xs (x4 + 1)).bind fun v1 =>
  (f_Law_append M v1).bind fun q2 =>
  (gSc Ls xs (x4 + 1)).bind fun v3 =>
  (f_Mo_append q2.2 v3).bind fun q4 =>
  (f_Mo_thrown q4.2).bind fun q5 =>
  if q5 = q2.1 then
    if q2.1 = 0 then
      if (lg_cmp (gGO q4.2) (Int32.toInt64 q4.1)) = 0 then
        some q4.2
      else
        none
    else
      some q4.2
  else
    none
theorem t_law_c0 {l : Launch} {ε : gEnv} {b : Nat} (hl0 : l.stackTraces = false) (hX : gXw ε) (hM : gMo ε) (hO : gHas ε 20 0 (4, 1, [])) (Ls : Nat) (xs : Nat → Int32) {ka na : Nat} (hc : ka + 1 ≤ 601024) (hs : na + 6 ≤ 7293034) (M : gMem) (x4 : Int32) (r : gMem) (h : f_law_c0 Ls xs M x4 = some r) (kk : gGo l ε k_law room_1 (gFm b Ls xs (ka + 1) (na + 6)) 1384 [(0, .ref b), (1, .ref (ε.2.2.1 18 0)), (2, .ref (ε.2.2.1 19 0)), (3, .ref (ε.2.2.1 20 0)), (4, .int x4)] [] r) : gGo l ε k_law room_1 (gFm b Ls xs ka na) 140 [(0, .ref b), (1, .ref (ε.2.2.1 18 0)), (2, .ref (ε.2.2.1 19 0)), (3, .ref (ε.2.2.1 20 0)), (4, .int x4)] [] M := by
  unfold f_law_c0 at h
  refine g_aload_n d_Law_law_140 rfl 1 rfl ?_
  refine g_aload_n d_Law_law_141 rfl 0 rfl ?_
  refine g_iload d_Law_law_142 4 rfl ?_
  refine g_iconst (v := 1) d_Law_law_144 (by decide) ?_
  refine g_iadd d_Law_law_145 ?_
  obtain ⟨v1, hv1, h⟩ := gOb h
  refine g_sld d_Law_law_146 hv1 ?_
  refine g_aload_n d_Law_law_147 rfl 3 rfl ?_
  obtain ⟨q2, hq2, h⟩ := gOb h
  refine g_callLaw (k := 3) (As := [.ref (ε.2.2.1 18 0), .int v1, .ref (ε.2.2.1 20 0)]) (rest := []) (fun hl0 => ctl_Law_append hl0 hX hO M v1 _ hq2) d_Law_law_148 cw_Law_append w_33 w_438 w_437 (by decide +kernel) rfl rfl (Nat.le_of_ble_eq_true rfl) ⟨Nat.le_of_ble_eq_true rfl, Nat.le_of_ble_eq_true rfl⟩ hc hs ?_
  refine g_istore (L' := [(5, .int q2.1), (0, .ref b), (1, .ref (ε.2.2.1 18 0)), (2, .ref (ε.2.2.1 19 0)), (3, .ref (ε.2.2.1 20 0)), (4, .int x4)]) d_Law_law_151 (by decide) rfl ?_
  refine g_aload_n d_Law_law_153 rfl 3 rfl ?_
  refine g_aload_n d_Law_law_154 rfl 1 rfl ?_
  refine g_iload d_Law_law_155 5 rfl ?_
  refine g_iconst (v := 1) d_Law_law_157 (by decide) ?_
  refine g_iadd d_Law_law_158 ?_
  obtain ⟨v3, hv3, h⟩ := gOb h
  refine g_sld d_Law_law_159 hv3 ?_
  obtain ⟨q4, hq4, h⟩ := gOb h
  refine g_callV_i (As := [.int v3]) (rest := []) (ct_Mo_append hM q2.2 v3 _ hq4) d_Law_law_160 ca_Mo_append w_1026 (gMo_h0 hM) rfl rfl rfl (Nat.le_of_ble_eq_true rfl) ⟨Nat.le_of_ble_eq_true rfl, Nat.le_of_ble_eq_true rfl⟩ ?_
  refine g_istore (L' := [(6, .int q4.1), (5, .int q2.1), (0, .ref b), (1, .ref (ε.2.2.1 18 0)), (2, .ref (ε.2.2.1 19 0)), (3, .ref (ε.2.2.1 20 0)), (4, .int x4)]) d_Law_law_163 (by decide) rfl ?_
  refine g_aload_n d_Law_law_165 rfl 4 rfl ?_
  obtain ⟨q5, hq5, h⟩ := gOb h
  refine g_callV_i (As := []) (rest := []) (ct_Mo_thrown hM q4.2 _ hq5) d_Law_law_166 ca_Mo_thrown w_1022 (gMo_h0 hM) rfl rfl rfl (Nat.le_of_ble_eq_true rfl) ⟨Nat.le_of_ble_eq_true rfl, Nat.le_of_ble_eq_true rfl⟩ ?_
  refine g_iload d_Law_law_169 1 rfl ?_
  refine g_icmp_eq (tgt := 176) d_Law_law_171 (by decide) (fun c8 => ?_) (fun c8 => ?_)
  · rw [if_pos c8] at h
    refine g_iload d_Law_law_176 1 rfl ?_
    refine g_if_ne (tgt := 193) d_Law_law_178 (by decide) (fun c7 => ?_) (fun c7 => ?_)
    · rw [if_neg c7] at h
      refine g_goto (tgt := 1384) d_Law_law_193 (by decide) ?_
      refine gGo_sub [2, 3, 4, 5, 6] rfl ?_
      obtain rfl := Option.some.inj h
      exact kk
    · rw [if_pos c7] at h
      refine g_aload_n d_Law_law_181 rfl 5 rfl ?_
      refine g_iconst (v := 0) d_Law_law_182 (by decide) ?_
      refine g_laload d_Law_law_183 hO ?_
      refine g_iload d_Law_law_184 0 rfl ?_
      refine g_i2l d_Law_law_186 ?_
      refine g_lcmp d_Law_law_187 ?_
      refine g_if_eq (tgt := 193) d_Law_law_188 (by decide) (fun c6 => ?_) (fun c6 => ?_)
      · rw [if_pos c6] at h
        refine g_goto (tgt := 1384) d_Law_law_193 (by decide) ?_
        refine gGo_sub [2, 3, 4, 5, 6] rfl ?_
        obtain rfl := Option.some.inj h
        exact kk
      · rw [if_neg c6] at h
        cases h
  · rw [if_neg c8] at h
    cases h
noncomputable def f_law_c1 (Ls : Nat) (xs : Nat → Int32) (M : gMem) (x4 : Int32) : Option gMem :=
  (f_DS_clearText M).bind fun q9 =>
  (f_Mo_clearText q9.2).bind fun q10 =>
  if q9.1 = q10.1 then
    some q10.2
  else
    none
theorem t_law_c1 {l : Launch} {ε : gEnv} {b : Nat} (hl0 : l.stackTraces = false) (hX : gXw ε) (hM : gMo ε) (hO : gHas ε 20 0 (4, 1, [])) (Ls : Nat) (xs : Nat → Int32) {ka na : Nat} (hc : ka + 1 ≤ 601024) (hs : na + 6 ≤ 7293034) (M : gMem) (x4 : Int32) (r : gMem) (h : f_law_c1 Ls xs M x4 = some r) (kk : gGo l ε k_law room_1 (gFm b Ls xs (ka + 1) (na + 6)) 1384 [(0, .ref b), (1, .ref (ε.2.2.1 18 0)), (2, .ref (ε.2.2.1 19 0)), (3, .ref (ε.2.2.1 20 0)), (4, .int x4)] [] r) : gGo l ε k_law room_1 (gFm b Ls xs ka na) 196 [(0, .ref b), (1, .ref (ε.2.2.1 18 0)), (2, .ref (ε.2.2.1 19 0)), (3, .ref (ε.2.2.1 20 0)), (4, .int x4)] [] M := by
  unfold f_law_c1 at h
  refine g_aload_n d_Law_law_196 rfl 1 rfl ?_
  obtain ⟨q9, hq9, h⟩ := gOb h
  refine g_callV_i (As := []) (rest := []) (ct_DS_clearText hX M _ hq9) d_Law_law_197 ca_DS_clearText w_288 (gXw_h0 hX) rfl rfl rfl (Nat.le_of_ble_eq_true rfl) ⟨Nat.le_of_ble_eq_true rfl, Nat.le_of_ble_eq_true rfl⟩ ?_
  refine g_aload_n d_Law_law_200 rfl 2 rfl ?_
  obtain ⟨q10, hq10, h⟩ := gOb h
  refine g_callV_i (As := []) (rest := [.int q9.1]) (ct_Mo_clearText hM q9.2 _ hq10) d_Law_law_201 ca_Mo_clearText w_1038 (gMo_h0 hM) rfl rfl rfl (Nat.le_of_ble_eq_true rfl) ⟨Nat.le_of_ble_eq_true rfl, Nat.le_of_ble_eq_true rfl⟩ ?_
  refine g_icmp_eq (tgt := 1384) d_Law_law_204 (by decide) (fun c11 => ?_) (fun c11 => ?_)
  · rw [if_pos c11] at h
    obtain rfl := Option.some.inj h
    exact g_use (Nat.le_succ _) (Nat.le_add_right _ _) hc hs kk
  · rw [if_neg c11] at h
    cases h
noncomputable def f_law_c2 (Ls : Nat) (xs : Nat → Int32) (M : gMem) (x4 : Int32) : Option gMem :=
  (f_DS_errorPosition M).bind fun q12 =>
  (f_Mo_errorPosition M).bind fun q13 =>
  if q12 = q13.1 then
    some q13.2
  else
    none
theorem t_law_c2 {l : Launch} {ε : gEnv} {b : Nat} (hl0 : l.stackTraces = false) (hX : gXw ε) (hM : gMo ε) (hO : gHas ε 20 0 (4, 1, [])) (Ls : Nat) (xs : Nat → Int32) {ka na : Nat} (hc : ka + 1 ≤ 601024) (hs : na + 6 ≤ 7293034) (M : gMem) (x4 : Int32) (r : gMem) (h : f_law_c2 Ls xs M x4 = some r) (kk : gGo l ε k_law room_1 (gFm b Ls xs (ka + 1) (na + 6)) 1384 [(0, .ref b), (1, .ref (ε.2.2.1 18 0)), (2, .ref (ε.2.2.1 19 0)), (3, .ref (ε.2.2.1 20 0)), (4, .int x4)] [] r) : gGo l ε k_law room_1 (gFm b Ls xs ka na) 209 [(0, .ref b), (1, .ref (ε.2.2.1 18 0)), (2, .ref (ε.2.2.1 19 0)), (3, .ref (ε.2.2.1 20 0)), (4, .int x4)] [] M := by
  unfold f_law_c2 at h
  refine g_aload_n d_Law_law_209 rfl 1 rfl ?_
  obtain ⟨q12, hq12, h⟩ := gOb h
  refine g_callV_i (As := []) (rest := []) (ct_DS_errorPosition hX M _ hq12) d_Law_law_210 ca_DS_errorPosition w_296 (gXw_h0 hX) rfl rfl rfl (Nat.le_of_ble_eq_true rfl) ⟨Nat.le_of_ble_eq_true rfl, Nat.le_of_ble_eq_true rfl⟩ ?_
  refine g_aload_n d_Law_law_213 rfl 2 rfl ?_
  obtain ⟨q13, hq13, h⟩ := gOb h
  refine g_callV_i (As := []) (rest := [.int q12]) (ct_Mo_errorPosition hM M _ hq13) d_Law_law_214 ca_Mo_errorPosition w_1042 (gMo_h0 hM) rfl rfl rfl (Nat.le_of_ble_eq_true rfl) ⟨Nat.le_of_ble_eq_true rfl, Nat.le_of_ble_eq_true rfl⟩ ?_
  refine g_icmp_eq (tgt := 1384) d_Law_law_217 (by decide) (fun c14 => ?_) (fun c14 => ?_)
  · rw [if_pos c14] at h
    obtain rfl := Option.some.inj h
    exact g_use (Nat.le_succ _) (Nat.le_add_right _ _) hc hs kk
  · rw [if_neg c14] at h
    cases h
noncomputable def f_law_c3 (Ls : Nat) (xs : Nat → Int32) (M : gMem) (x4 : Int32) : Option gMem :=
  (f_Law_load M).bind fun q15 =>
  (f_Mo_load q15.2).bind fun q16 =>
  (f_Mo_thrown q16.2).bind fun q17 =>
  if q17 = q15.1 then
    if q15.1 = 0 then
      if (lg_cmp (gGO q16.2) (Int32.toInt64 q16.1)) = 0 then
        some q16.2
      else
        none
    else
      some q16.2
  else
    none
theorem t_law_c3 {l : Launch} {ε : gEnv} {b : Nat} (hl0 : l.stackTraces = false) (hX : gXw ε) (hM : gMo ε) (hO : gHas ε 20 0 (4, 1, [])) (Ls : Nat) (xs : Nat → Int32) {ka na : Nat} (hc : ka + 1 ≤ 601024) (hs : na + 6 ≤ 7293034) (M : gMem) (x4 : Int32) (r : gMem) (h : f_law_c3 Ls xs M x4 = some r) (kk : gGo l ε k_law room_1 (gFm b Ls xs (ka + 1) (na + 6)) 1384 [(0, .ref b), (1, .ref (ε.2.2.1 18 0)), (2, .ref (ε.2.2.1 19 0)), (3, .ref (ε.2.2.1 20 0)), (4, .int x4)] [] r) : gGo l ε k_law room_1 (gFm b Ls xs ka na) 222 [(0, .ref b), (1, .ref (ε.2.2.1 18 0)), (2, .ref (ε.2.2.1 19 0)), (3, .ref (ε.2.2.1 20 0)), (4, .int x4)] [] M := by
  unfold f_law_c3 at h
  refine g_aload_n d_Law_law_222 rfl 1 rfl ?_
  refine g_aload_n d_Law_law_223 rfl 3 rfl ?_
  obtain ⟨q15, hq15, h⟩ := gOb h
  refine g_callLaw (k := 2) (As := [.ref (ε.2.2.1 18 0), .ref (ε.2.2.1 20 0)]) (rest := []) (fun hl0 => ctl_Law_load hl0 hX hO M _ hq15) d_Law_law_224 cw_Law_load w_33 w_540 w_539 (by decide +kernel) rfl rfl (Nat.le_of_ble_eq_true rfl) ⟨Nat.le_of_ble_eq_true rfl, Nat.le_of_ble_eq_true rfl⟩ hc hs ?_
  refine g_istore (L' := [(5, .int q15.1), (0, .ref b), (1, .ref (ε.2.2.1 18 0)), (2, .ref (ε.2.2.1 19 0)), (3, .ref (ε.2.2.1 20 0)), (4, .int x4)]) d_Law_law_227 (by decide) rfl ?_
  refine g_aload_n d_Law_law_229 rfl 3 rfl ?_
  obtain ⟨q16, hq16, h⟩ := gOb h
  refine g_callV_i (As := []) (rest := []) (ct_Mo_load hM q15.2 _ hq16) d_Law_law_230 ca_Mo_load w_1132 (gMo_h0 hM) rfl rfl rfl (Nat.le_of_ble_eq_true rfl) ⟨Nat.le_of_ble_eq_true rfl, Nat.le_of_ble_eq_true rfl⟩ ?_
  refine g_istore (L' := [(6, .int q16.1), (5, .int q15.1), (0, .ref b), (1, .ref (ε.2.2.1 18 0)), (2, .ref (ε.2.2.1 19 0)), (3, .ref (ε.2.2.1 20 0)), (4, .int x4)]) d_Law_law_233 (by decide) rfl ?_
  refine g_aload_n d_Law_law_235 rfl 4 rfl ?_
  obtain ⟨q17, hq17, h⟩ := gOb h
  refine g_callV_i (As := []) (rest := []) (ct_Mo_thrown hM q16.2 _ hq17) d_Law_law_236 ca_Mo_thrown w_1022 (gMo_h0 hM) rfl rfl rfl (Nat.le_of_ble_eq_true rfl) ⟨Nat.le_of_ble_eq_true rfl, Nat.le_of_ble_eq_true rfl⟩ ?_
  refine g_iload d_Law_law_239 1 rfl ?_
  refine g_icmp_eq (tgt := 246) d_Law_law_241 (by decide) (fun c20 => ?_) (fun c20 => ?_)
  · rw [if_pos c20] at h
    refine g_iload d_Law_law_246 1 rfl ?_
    refine g_if_ne (tgt := 263) d_Law_law_248 (by decide) (fun c19 => ?_) (fun c19 => ?_)
    · rw [if_neg c19] at h
      refine g_goto (tgt := 1384) d_Law_law_263 (by decide) ?_
      refine gGo_sub [2, 3, 4, 5, 6] rfl ?_
      obtain rfl := Option.some.inj h
      exact kk
    · rw [if_pos c19] at h
      refine g_aload_n d_Law_law_251 rfl 5 rfl ?_
      refine g_iconst (v := 0) d_Law_law_252 (by decide) ?_
      refine g_laload d_Law_law_253 hO ?_
      refine g_iload d_Law_law_254 0 rfl ?_
      refine g_i2l d_Law_law_256 ?_
      refine g_lcmp d_Law_law_257 ?_
      refine g_if_eq (tgt := 263) d_Law_law_258 (by decide) (fun c18 => ?_) (fun c18 => ?_)
      · rw [if_pos c18] at h
        refine g_goto (tgt := 1384) d_Law_law_263 (by decide) ?_
        refine gGo_sub [2, 3, 4, 5, 6] rfl ?_
        obtain rfl := Option.some.inj h
        exact kk
      · rw [if_neg c18] at h
        cases h
  · rw [if_neg c20] at h
    cases h
noncomputable def f_law_c4 (Ls : Nat) (xs : Nat → Int32) (M : gMem) (x4 : Int32) : Option gMem :=
  (gSc Ls xs (x4 + 1)).bind fun v21 =>
  (f_Law_about M v21).bind fun q22 =>
  (gSc Ls xs (x4 + 1)).bind fun v23 =>
  (f_Mo_about q22.2 v23).bind fun q24 =>
  (f_Mo_thrown q24.2).bind fun q25 =>
  if q25 = q22.1 then
    if q22.1 = 0 then
      if (lg_cmp (gGO q24.2) (Int32.toInt64 q24.1)) = 0 then
        some q24.2
      else
        none
    else
      some q24.2
  else
    none
theorem t_law_c4 {l : Launch} {ε : gEnv} {b : Nat} (hl0 : l.stackTraces = false) (hX : gXw ε) (hM : gMo ε) (hO : gHas ε 20 0 (4, 1, [])) (Ls : Nat) (xs : Nat → Int32) {ka na : Nat} (hc : ka + 1 ≤ 601024) (hs : na + 6 ≤ 7293034) (M : gMem) (x4 : Int32) (r : gMem) (h : f_law_c4 Ls xs M x4 = some r) (kk : gGo l ε k_law room_1 (gFm b Ls xs (ka + 1) (na + 6)) 1384 [(0, .ref b), (1, .ref (ε.2.2.1 18 0)), (2, .ref (ε.2.2.1 19 0)), (3, .ref (ε.2.2.1 20 0)), (4, .int x4)] [] r) : gGo l ε k_law room_1 (gFm b Ls xs ka na) 266 [(0, .ref b), (1, .ref (ε.2.2.1 18 0)), (2, .ref (ε.2.2.1 19 0)), (3, .ref (ε.2.2.1 20 0)), (4, .int x4)] [] M := by
  unfold f_law_c4 at h
  refine g_aload_n d_Law_law_266 rfl 1 rfl ?_
  refine g_aload_n d_Law_law_267 rfl 0 rfl ?_
  refine g_iload d_Law_law_268 4 rfl ?_
  refine g_iconst (v := 1) d_Law_law_270 (by decide) ?_
  refine g_iadd d_Law_law_271 ?_
  obtain ⟨v21, hv21, h⟩ := gOb h
  refine g_sld d_Law_law_272 hv21 ?_
  refine g_aload_n d_Law_law_273 rfl 3 rfl ?_
  obtain ⟨q22, hq22, h⟩ := gOb h
  refine g_callLaw (k := 3) (As := [.ref (ε.2.2.1 18 0), .int v21, .ref (ε.2.2.1 20 0)]) (rest := []) (fun hl0 => ctl_Law_about hl0 hX hO M v21 _ hq22) d_Law_law_274 cw_Law_about w_33 w_654 w_653 (by decide +kernel) rfl rfl (Nat.le_of_ble_eq_true rfl) ⟨Nat.le_of_ble_eq_true rfl, Nat.le_of_ble_eq_true rfl⟩ hc hs ?_
  refine g_istore (L' := [(5, .int q22.1), (0, .ref b), (1, .ref (ε.2.2.1 18 0)), (2, .ref (ε.2.2.1 19 0)), (3, .ref (ε.2.2.1 20 0)), (4, .int x4)]) d_Law_law_277 (by decide) rfl ?_
  refine g_aload_n d_Law_law_279 rfl 3 rfl ?_
  refine g_aload_n d_Law_law_280 rfl 1 rfl ?_
  refine g_iload d_Law_law_281 5 rfl ?_
  refine g_iconst (v := 1) d_Law_law_283 (by decide) ?_
  refine g_iadd d_Law_law_284 ?_
  obtain ⟨v23, hv23, h⟩ := gOb h
  refine g_sld d_Law_law_285 hv23 ?_
  obtain ⟨q24, hq24, h⟩ := gOb h
  refine g_callV_i (As := [.int v23]) (rest := []) (ct_Mo_about hM q22.2 v23 _ hq24) d_Law_law_286 ca_Mo_about w_1139 (gMo_h0 hM) rfl rfl rfl (Nat.le_of_ble_eq_true rfl) ⟨Nat.le_of_ble_eq_true rfl, Nat.le_of_ble_eq_true rfl⟩ ?_
  refine g_istore (L' := [(6, .int q24.1), (5, .int q22.1), (0, .ref b), (1, .ref (ε.2.2.1 18 0)), (2, .ref (ε.2.2.1 19 0)), (3, .ref (ε.2.2.1 20 0)), (4, .int x4)]) d_Law_law_289 (by decide) rfl ?_
  refine g_aload_n d_Law_law_291 rfl 4 rfl ?_
  obtain ⟨q25, hq25, h⟩ := gOb h
  refine g_callV_i (As := []) (rest := []) (ct_Mo_thrown hM q24.2 _ hq25) d_Law_law_292 ca_Mo_thrown w_1022 (gMo_h0 hM) rfl rfl rfl (Nat.le_of_ble_eq_true rfl) ⟨Nat.le_of_ble_eq_true rfl, Nat.le_of_ble_eq_true rfl⟩ ?_
  refine g_iload d_Law_law_295 1 rfl ?_
  refine g_icmp_eq (tgt := 302) d_Law_law_297 (by decide) (fun c28 => ?_) (fun c28 => ?_)
  · rw [if_pos c28] at h
    refine g_iload d_Law_law_302 1 rfl ?_
    refine g_if_ne (tgt := 319) d_Law_law_304 (by decide) (fun c27 => ?_) (fun c27 => ?_)
    · rw [if_neg c27] at h
      refine g_goto (tgt := 1384) d_Law_law_319 (by decide) ?_
      refine gGo_sub [2, 3, 4, 5, 6] rfl ?_
      obtain rfl := Option.some.inj h
      exact kk
    · rw [if_pos c27] at h
      refine g_aload_n d_Law_law_307 rfl 5 rfl ?_
      refine g_iconst (v := 0) d_Law_law_308 (by decide) ?_
      refine g_laload d_Law_law_309 hO ?_
      refine g_iload d_Law_law_310 0 rfl ?_
      refine g_i2l d_Law_law_312 ?_
      refine g_lcmp d_Law_law_313 ?_
      refine g_if_eq (tgt := 319) d_Law_law_314 (by decide) (fun c26 => ?_) (fun c26 => ?_)
      · rw [if_pos c26] at h
        refine g_goto (tgt := 1384) d_Law_law_319 (by decide) ?_
        refine gGo_sub [2, 3, 4, 5, 6] rfl ?_
        obtain rfl := Option.some.inj h
        exact kk
      · rw [if_neg c26] at h
        cases h
  · rw [if_neg c28] at h
    cases h
noncomputable def f_law_c5 (Ls : Nat) (xs : Nat → Int32) (M : gMem) (x4 : Int32) : Option gMem :=
  (gSc Ls xs (x4 + 1)).bind fun v29 =>
  (gSc Ls xs (x4 + 2)).bind fun v30 =>
  (f_Law_cardOf M v29 v30).bind fun q31 =>
  (gSc Ls xs (x4 + 1)).bind fun v32 =>
  (gSc Ls xs (x4 + 2)).bind fun v33 =>
  (f_Mo_cardOf q31.2 v32 v33).bind fun q34 =>
  (f_Mo_thrown q34.2).bind fun q35 =>
  if q35 = q31.1 then
    if q31.1 = 0 then
      if (lg_cmp (gGO q34.2) (Int32.toInt64 q34.1)) = 0 then
        some q34.2
      else
        none
    else
      some q34.2
  else
    none
theorem t_law_c5 {l : Launch} {ε : gEnv} {b : Nat} (hl0 : l.stackTraces = false) (hX : gXw ε) (hM : gMo ε) (hO : gHas ε 20 0 (4, 1, [])) (Ls : Nat) (xs : Nat → Int32) {ka na : Nat} (hc : ka + 1 ≤ 601024) (hs : na + 6 ≤ 7293034) (M : gMem) (x4 : Int32) (r : gMem) (h : f_law_c5 Ls xs M x4 = some r) (kk : gGo l ε k_law room_1 (gFm b Ls xs (ka + 1) (na + 6)) 1384 [(0, .ref b), (1, .ref (ε.2.2.1 18 0)), (2, .ref (ε.2.2.1 19 0)), (3, .ref (ε.2.2.1 20 0)), (4, .int x4)] [] r) : gGo l ε k_law room_1 (gFm b Ls xs ka na) 322 [(0, .ref b), (1, .ref (ε.2.2.1 18 0)), (2, .ref (ε.2.2.1 19 0)), (3, .ref (ε.2.2.1 20 0)), (4, .int x4)] [] M := by
  unfold f_law_c5 at h
  refine g_aload_n d_Law_law_322 rfl 1 rfl ?_
  refine g_aload_n d_Law_law_323 rfl 0 rfl ?_
  refine g_iload d_Law_law_324 4 rfl ?_
  refine g_iconst (v := 1) d_Law_law_326 (by decide) ?_
  refine g_iadd d_Law_law_327 ?_
  obtain ⟨v29, hv29, h⟩ := gOb h
  refine g_sld d_Law_law_328 hv29 ?_
  refine g_aload_n d_Law_law_329 rfl 0 rfl ?_
  refine g_iload d_Law_law_330 4 rfl ?_
  refine g_iconst (v := 2) d_Law_law_332 (by decide) ?_
  refine g_iadd d_Law_law_333 ?_
  obtain ⟨v30, hv30, h⟩ := gOb h
  refine g_sld d_Law_law_334 hv30 ?_
  refine g_aload_n d_Law_law_335 rfl 3 rfl ?_
  obtain ⟨q31, hq31, h⟩ := gOb h
  refine g_callLaw (k := 4) (As := [.ref (ε.2.2.1 18 0), .int v29, .int v30, .ref (ε.2.2.1 20 0)]) (rest := []) (fun hl0 => ctl_Law_cardOf hl0 hX hO M v29 v30 _ hq31) d_Law_law_336 cw_Law_cardOf w_33 w_669 w_668 (by decide +kernel) rfl rfl (Nat.le_of_ble_eq_true rfl) ⟨Nat.le_of_ble_eq_true rfl, Nat.le_of_ble_eq_true rfl⟩ hc hs ?_
  refine g_istore (L' := [(5, .int q31.1), (0, .ref b), (1, .ref (ε.2.2.1 18 0)), (2, .ref (ε.2.2.1 19 0)), (3, .ref (ε.2.2.1 20 0)), (4, .int x4)]) d_Law_law_339 (by decide) rfl ?_
  refine g_aload_n d_Law_law_341 rfl 3 rfl ?_
  refine g_aload_n d_Law_law_342 rfl 1 rfl ?_
  refine g_iload d_Law_law_343 5 rfl ?_
  refine g_iconst (v := 1) d_Law_law_345 (by decide) ?_
  refine g_iadd d_Law_law_346 ?_
  obtain ⟨v32, hv32, h⟩ := gOb h
  refine g_sld d_Law_law_347 hv32 ?_
  refine g_aload_n d_Law_law_348 rfl 1 rfl ?_
  refine g_iload d_Law_law_349 5 rfl ?_
  refine g_iconst (v := 2) d_Law_law_351 (by decide) ?_
  refine g_iadd d_Law_law_352 ?_
  obtain ⟨v33, hv33, h⟩ := gOb h
  refine g_sld d_Law_law_353 hv33 ?_
  obtain ⟨q34, hq34, h⟩ := gOb h
  refine g_callV_i (As := [.int v32, .int v33]) (rest := []) (ct_Mo_cardOf hM q31.2 v32 v33 _ hq34) d_Law_law_354 ca_Mo_cardOf w_1144 (gMo_h0 hM) rfl rfl rfl (Nat.le_of_ble_eq_true rfl) ⟨Nat.le_of_ble_eq_true rfl, Nat.le_of_ble_eq_true rfl⟩ ?_
  refine g_istore (L' := [(6, .int q34.1), (5, .int q31.1), (0, .ref b), (1, .ref (ε.2.2.1 18 0)), (2, .ref (ε.2.2.1 19 0)), (3, .ref (ε.2.2.1 20 0)), (4, .int x4)]) d_Law_law_357 (by decide) rfl ?_
  refine g_aload_n d_Law_law_359 rfl 4 rfl ?_
  obtain ⟨q35, hq35, h⟩ := gOb h
  refine g_callV_i (As := []) (rest := []) (ct_Mo_thrown hM q34.2 _ hq35) d_Law_law_360 ca_Mo_thrown w_1022 (gMo_h0 hM) rfl rfl rfl (Nat.le_of_ble_eq_true rfl) ⟨Nat.le_of_ble_eq_true rfl, Nat.le_of_ble_eq_true rfl⟩ ?_
  refine g_iload d_Law_law_363 1 rfl ?_
  refine g_icmp_eq (tgt := 370) d_Law_law_365 (by decide) (fun c38 => ?_) (fun c38 => ?_)
  · rw [if_pos c38] at h
    refine g_iload d_Law_law_370 1 rfl ?_
    refine g_if_ne (tgt := 387) d_Law_law_372 (by decide) (fun c37 => ?_) (fun c37 => ?_)
    · rw [if_neg c37] at h
      refine g_goto (tgt := 1384) d_Law_law_387 (by decide) ?_
      refine gGo_sub [2, 3, 4, 5, 6] rfl ?_
      obtain rfl := Option.some.inj h
      exact kk
    · rw [if_pos c37] at h
      refine g_aload_n d_Law_law_375 rfl 5 rfl ?_
      refine g_iconst (v := 0) d_Law_law_376 (by decide) ?_
      refine g_laload d_Law_law_377 hO ?_
      refine g_iload d_Law_law_378 0 rfl ?_
      refine g_i2l d_Law_law_380 ?_
      refine g_lcmp d_Law_law_381 ?_
      refine g_if_eq (tgt := 387) d_Law_law_382 (by decide) (fun c36 => ?_) (fun c36 => ?_)
      · rw [if_pos c36] at h
        refine g_goto (tgt := 1384) d_Law_law_387 (by decide) ?_
        refine gGo_sub [2, 3, 4, 5, 6] rfl ?_
        obtain rfl := Option.some.inj h
        exact kk
      · rw [if_neg c36] at h
        cases h
  · rw [if_neg c38] at h
    cases h
noncomputable def f_law_c6 (Ls : Nat) (xs : Nat → Int32) (M : gMem) (x4 : Int32) : Option gMem :=
  (gSc Ls xs (x4 + 1)).bind fun v39 =>
  (gSc Ls xs (x4 + 2)).bind fun v40 =>
  (gSc Ls xs (x4 + 3)).bind fun v41 =>
  (f_Law_suitOf M v39 v40 v41).bind fun q42 =>
  (gSc Ls xs (x4 + 1)).bind fun v43 =>
  (gSc Ls xs (x4 + 2)).bind fun v44 =>
  (gSc Ls xs (x4 + 3)).bind fun v45 =>
  (f_Mo_suitOf q42.2 v43 v44 v45).bind fun q46 =>
  (f_Mo_thrown q46.2).bind fun q47 =>
  if q47 = q42.1 then
    if q42.1 = 0 then
      if (lg_cmp (gGO q46.2) (Int32.toInt64 q46.1)) = 0 then
        some q46.2
      else
        none
    else
      some q46.2
  else
    none
theorem t_law_c6 {l : Launch} {ε : gEnv} {b : Nat} (hl0 : l.stackTraces = false) (hX : gXw ε) (hM : gMo ε) (hO : gHas ε 20 0 (4, 1, [])) (Ls : Nat) (xs : Nat → Int32) {ka na : Nat} (hc : ka + 1 ≤ 601024) (hs : na + 6 ≤ 7293034) (M : gMem) (x4 : Int32) (r : gMem) (h : f_law_c6 Ls xs M x4 = some r) (kk : gGo l ε k_law room_1 (gFm b Ls xs (ka + 1) (na + 6)) 1384 [(0, .ref b), (1, .ref (ε.2.2.1 18 0)), (2, .ref (ε.2.2.1 19 0)), (3, .ref (ε.2.2.1 20 0)), (4, .int x4)] [] r) : gGo l ε k_law room_1 (gFm b Ls xs ka na) 390 [(0, .ref b), (1, .ref (ε.2.2.1 18 0)), (2, .ref (ε.2.2.1 19 0)), (3, .ref (ε.2.2.1 20 0)), (4, .int x4)] [] M := by
  unfold f_law_c6 at h
  refine g_aload_n d_Law_law_390 rfl 1 rfl ?_
  refine g_aload_n d_Law_law_391 rfl 0 rfl ?_
  refine g_iload d_Law_law_392 4 rfl ?_
  refine g_iconst (v := 1) d_Law_law_394 (by decide) ?_
  refine g_iadd d_Law_law_395 ?_
  obtain ⟨v39, hv39, h⟩ := gOb h
  refine g_sld d_Law_law_396 hv39 ?_
  refine g_aload_n d_Law_law_397 rfl 0 rfl ?_
  refine g_iload d_Law_law_398 4 rfl ?_
  refine g_iconst (v := 2) d_Law_law_400 (by decide) ?_
  refine g_iadd d_Law_law_401 ?_
  obtain ⟨v40, hv40, h⟩ := gOb h
  refine g_sld d_Law_law_402 hv40 ?_
  refine g_aload_n d_Law_law_403 rfl 0 rfl ?_
  refine g_iload d_Law_law_404 4 rfl ?_
  refine g_iconst (v := 3) d_Law_law_406 (by decide) ?_
  refine g_iadd d_Law_law_407 ?_
  obtain ⟨v41, hv41, h⟩ := gOb h
  refine g_sld d_Law_law_408 hv41 ?_
  refine g_aload_n d_Law_law_409 rfl 3 rfl ?_
  obtain ⟨q42, hq42, h⟩ := gOb h
  refine g_callLaw (k := 5) (As := [.ref (ε.2.2.1 18 0), .int v39, .int v40, .int v41, .ref (ε.2.2.1 20 0)]) (rest := []) (fun hl0 => ctl_Law_suitOf hl0 hX hO M v39 v40 v41 _ hq42) d_Law_law_410 cw_Law_suitOf w_33 w_702 w_701 (by decide +kernel) rfl rfl (Nat.le_of_ble_eq_true rfl) ⟨Nat.le_of_ble_eq_true rfl, Nat.le_of_ble_eq_true rfl⟩ hc hs ?_
  refine g_istore (L' := [(5, .int q42.1), (0, .ref b), (1, .ref (ε.2.2.1 18 0)), (2, .ref (ε.2.2.1 19 0)), (3, .ref (ε.2.2.1 20 0)), (4, .int x4)]) d_Law_law_413 (by decide) rfl ?_
  refine g_aload_n d_Law_law_415 rfl 3 rfl ?_
  refine g_aload_n d_Law_law_416 rfl 1 rfl ?_
  refine g_iload d_Law_law_417 5 rfl ?_
  refine g_iconst (v := 1) d_Law_law_419 (by decide) ?_
  refine g_iadd d_Law_law_420 ?_
  obtain ⟨v43, hv43, h⟩ := gOb h
  refine g_sld d_Law_law_421 hv43 ?_
  refine g_aload_n d_Law_law_422 rfl 1 rfl ?_
  refine g_iload d_Law_law_423 5 rfl ?_
  refine g_iconst (v := 2) d_Law_law_425 (by decide) ?_
  refine g_iadd d_Law_law_426 ?_
  obtain ⟨v44, hv44, h⟩ := gOb h
  refine g_sld d_Law_law_427 hv44 ?_
  refine g_aload_n d_Law_law_428 rfl 1 rfl ?_
  refine g_iload d_Law_law_429 5 rfl ?_
  refine g_iconst (v := 3) d_Law_law_431 (by decide) ?_
  refine g_iadd d_Law_law_432 ?_
  obtain ⟨v45, hv45, h⟩ := gOb h
  refine g_sld d_Law_law_433 hv45 ?_
  obtain ⟨q46, hq46, h⟩ := gOb h
  refine g_callV_i (As := [.int v43, .int v44, .int v45]) (rest := []) (ct_Mo_suitOf hM q42.2 v43 v44 v45 _ hq46) d_Law_law_434 ca_Mo_suitOf w_1150 (gMo_h0 hM) rfl rfl rfl (Nat.le_of_ble_eq_true rfl) ⟨Nat.le_of_ble_eq_true rfl, Nat.le_of_ble_eq_true rfl⟩ ?_
  refine g_istore (L' := [(6, .int q46.1), (5, .int q42.1), (0, .ref b), (1, .ref (ε.2.2.1 18 0)), (2, .ref (ε.2.2.1 19 0)), (3, .ref (ε.2.2.1 20 0)), (4, .int x4)]) d_Law_law_437 (by decide) rfl ?_
  refine g_aload_n d_Law_law_439 rfl 4 rfl ?_
  obtain ⟨q47, hq47, h⟩ := gOb h
  refine g_callV_i (As := []) (rest := []) (ct_Mo_thrown hM q46.2 _ hq47) d_Law_law_440 ca_Mo_thrown w_1022 (gMo_h0 hM) rfl rfl rfl (Nat.le_of_ble_eq_true rfl) ⟨Nat.le_of_ble_eq_true rfl, Nat.le_of_ble_eq_true rfl⟩ ?_
  refine g_iload d_Law_law_443 1 rfl ?_
  refine g_icmp_eq (tgt := 450) d_Law_law_445 (by decide) (fun c50 => ?_) (fun c50 => ?_)
  · rw [if_pos c50] at h
    refine g_iload d_Law_law_450 1 rfl ?_
    refine g_if_ne (tgt := 467) d_Law_law_452 (by decide) (fun c49 => ?_) (fun c49 => ?_)
    · rw [if_neg c49] at h
      refine g_goto (tgt := 1384) d_Law_law_467 (by decide) ?_
      refine gGo_sub [2, 3, 4, 5, 6] rfl ?_
      obtain rfl := Option.some.inj h
      exact kk
    · rw [if_pos c49] at h
      refine g_aload_n d_Law_law_455 rfl 5 rfl ?_
      refine g_iconst (v := 0) d_Law_law_456 (by decide) ?_
      refine g_laload d_Law_law_457 hO ?_
      refine g_iload d_Law_law_458 0 rfl ?_
      refine g_i2l d_Law_law_460 ?_
      refine g_lcmp d_Law_law_461 ?_
      refine g_if_eq (tgt := 467) d_Law_law_462 (by decide) (fun c48 => ?_) (fun c48 => ?_)
      · rw [if_pos c48] at h
        refine g_goto (tgt := 1384) d_Law_law_467 (by decide) ?_
        refine gGo_sub [2, 3, 4, 5, 6] rfl ?_
        obtain rfl := Option.some.inj h
        exact kk
      · rw [if_neg c48] at h
        cases h
  · rw [if_neg c50] at h
    cases h
noncomputable def f_law_c7 (Ls : Nat) (xs : Nat → Int32) (M : gMem) (x4 : Int32) : Option gMem :=
  (gSc Ls xs (x4 + 1)).bind fun v51 =>
  (f_Law_trick M v51).bind fun q52 =>
  (gSc Ls xs (x4 + 1)).bind fun v53 =>
  (f_Mo_trick q52.2 v53).bind fun q54 =>
  (f_Mo_thrown q54.2).bind fun q55 =>
  if q55 = q52.1 then
    if q52.1 = 0 then
      if (lg_cmp (gGO q54.2) (Int32.toInt64 q54.1)) = 0 then
        some q54.2
      else
        none
    else
      some q54.2
  else
    none
theorem t_law_c7 {l : Launch} {ε : gEnv} {b : Nat} (hl0 : l.stackTraces = false) (hX : gXw ε) (hM : gMo ε) (hO : gHas ε 20 0 (4, 1, [])) (Ls : Nat) (xs : Nat → Int32) {ka na : Nat} (hc : ka + 1 ≤ 601024) (hs : na + 6 ≤ 7293034) (M : gMem) (x4 : Int32) (r : gMem) (h : f_law_c7 Ls xs M x4 = some r) (kk : gGo l ε k_law room_1 (gFm b Ls xs (ka + 1) (na + 6)) 1384 [(0, .ref b), (1, .ref (ε.2.2.1 18 0)), (2, .ref (ε.2.2.1 19 0)), (3, .ref (ε.2.2.1 20 0)), (4, .int x4)] [] r) : gGo l ε k_law room_1 (gFm b Ls xs ka na) 470 [(0, .ref b), (1, .ref (ε.2.2.1 18 0)), (2, .ref (ε.2.2.1 19 0)), (3, .ref (ε.2.2.1 20 0)), (4, .int x4)] [] M := by
  unfold f_law_c7 at h
  refine g_aload_n d_Law_law_470 rfl 1 rfl ?_
  refine g_aload_n d_Law_law_471 rfl 0 rfl ?_
  refine g_iload d_Law_law_472 4 rfl ?_
  refine g_iconst (v := 1) d_Law_law_474 (by decide) ?_
  refine g_iadd d_Law_law_475 ?_
  obtain ⟨v51, hv51, h⟩ := gOb h
  refine g_sld d_Law_law_476 hv51 ?_
  refine g_aload_n d_Law_law_477 rfl 3 rfl ?_
  obtain ⟨q52, hq52, h⟩ := gOb h
  refine g_callLaw (k := 3) (As := [.ref (ε.2.2.1 18 0), .int v51, .ref (ε.2.2.1 20 0)]) (rest := []) (fun hl0 => ctl_Law_trick hl0 hX hO M v51 _ hq52) d_Law_law_478 cw_Law_trick w_33 w_725 w_724 (by decide +kernel) rfl rfl (Nat.le_of_ble_eq_true rfl) ⟨Nat.le_of_ble_eq_true rfl, Nat.le_of_ble_eq_true rfl⟩ hc hs ?_
  refine g_istore (L' := [(5, .int q52.1), (0, .ref b), (1, .ref (ε.2.2.1 18 0)), (2, .ref (ε.2.2.1 19 0)), (3, .ref (ε.2.2.1 20 0)), (4, .int x4)]) d_Law_law_481 (by decide) rfl ?_
  refine g_aload_n d_Law_law_483 rfl 3 rfl ?_
  refine g_aload_n d_Law_law_484 rfl 1 rfl ?_
  refine g_iload d_Law_law_485 5 rfl ?_
  refine g_iconst (v := 1) d_Law_law_487 (by decide) ?_
  refine g_iadd d_Law_law_488 ?_
  obtain ⟨v53, hv53, h⟩ := gOb h
  refine g_sld d_Law_law_489 hv53 ?_
  obtain ⟨q54, hq54, h⟩ := gOb h
  refine g_callV_i (As := [.int v53]) (rest := []) (ct_Mo_trick hM q52.2 v53 _ hq54) d_Law_law_490 ca_Mo_trick w_1156 (gMo_h0 hM) rfl rfl rfl (Nat.le_of_ble_eq_true rfl) ⟨Nat.le_of_ble_eq_true rfl, Nat.le_of_ble_eq_true rfl⟩ ?_
  refine g_istore (L' := [(6, .int q54.1), (5, .int q52.1), (0, .ref b), (1, .ref (ε.2.2.1 18 0)), (2, .ref (ε.2.2.1 19 0)), (3, .ref (ε.2.2.1 20 0)), (4, .int x4)]) d_Law_law_493 (by decide) rfl ?_
  refine g_aload_n d_Law_law_495 rfl 4 rfl ?_
  obtain ⟨q55, hq55, h⟩ := gOb h
  refine g_callV_i (As := []) (rest := []) (ct_Mo_thrown hM q54.2 _ hq55) d_Law_law_496 ca_Mo_thrown w_1022 (gMo_h0 hM) rfl rfl rfl (Nat.le_of_ble_eq_true rfl) ⟨Nat.le_of_ble_eq_true rfl, Nat.le_of_ble_eq_true rfl⟩ ?_
  refine g_iload d_Law_law_499 1 rfl ?_
  refine g_icmp_eq (tgt := 506) d_Law_law_501 (by decide) (fun c58 => ?_) (fun c58 => ?_)
  · rw [if_pos c58] at h
    refine g_iload d_Law_law_506 1 rfl ?_
    refine g_if_ne (tgt := 523) d_Law_law_508 (by decide) (fun c57 => ?_) (fun c57 => ?_)
    · rw [if_neg c57] at h
      refine g_goto (tgt := 1384) d_Law_law_523 (by decide) ?_
      refine gGo_sub [2, 3, 4, 5, 6] rfl ?_
      obtain rfl := Option.some.inj h
      exact kk
    · rw [if_pos c57] at h
      refine g_aload_n d_Law_law_511 rfl 5 rfl ?_
      refine g_iconst (v := 0) d_Law_law_512 (by decide) ?_
      refine g_laload d_Law_law_513 hO ?_
      refine g_iload d_Law_law_514 0 rfl ?_
      refine g_i2l d_Law_law_516 ?_
      refine g_lcmp d_Law_law_517 ?_
      refine g_if_eq (tgt := 523) d_Law_law_518 (by decide) (fun c56 => ?_) (fun c56 => ?_)
      · rw [if_pos c56] at h
        refine g_goto (tgt := 1384) d_Law_law_523 (by decide) ?_
        refine gGo_sub [2, 3, 4, 5, 6] rfl ?_
        obtain rfl := Option.some.inj h
        exact kk
      · rw [if_neg c56] at h
        cases h
  · rw [if_neg c58] at h
    cases h
noncomputable def f_law_c8 (Ls : Nat) (xs : Nat → Int32) (M : gMem) (x4 : Int32) : Option gMem :=
  (gSc Ls xs (x4 + 1)).bind fun v59 =>
  (gSc Ls xs (x4 + 2)).bind fun v60 =>
  (f_DS_deal M ((gShl (Int32.toInt64 v59) 32) ||| ((Int32.toInt64 v60) &&& (4294967295)))).bind fun q61 =>
  (gSc Ls xs (x4 + 1)).bind fun v62 =>
  (gSc Ls xs (x4 + 2)).bind fun v63 =>
  (f_Mo_deal q61.2 ((gShl (Int32.toInt64 v62) 32) ||| ((Int32.toInt64 v63) &&& (4294967295)))).bind fun q64 =>
  if q61.1 = q64.1 then
    some q64.2
  else
    none
theorem t_law_c8 {l : Launch} {ε : gEnv} {b : Nat} (hl0 : l.stackTraces = false) (hX : gXw ε) (hM : gMo ε) (hO : gHas ε 20 0 (4, 1, [])) (Ls : Nat) (xs : Nat → Int32) {ka na : Nat} (hc : ka + 1 ≤ 601024) (hs : na + 6 ≤ 7293034) (M : gMem) (x4 : Int32) (r : gMem) (h : f_law_c8 Ls xs M x4 = some r) (kk : gGo l ε k_law room_1 (gFm b Ls xs (ka + 1) (na + 6)) 1384 [(0, .ref b), (1, .ref (ε.2.2.1 18 0)), (2, .ref (ε.2.2.1 19 0)), (3, .ref (ε.2.2.1 20 0)), (4, .int x4)] [] r) : gGo l ε k_law room_1 (gFm b Ls xs ka na) 526 [(0, .ref b), (1, .ref (ε.2.2.1 18 0)), (2, .ref (ε.2.2.1 19 0)), (3, .ref (ε.2.2.1 20 0)), (4, .int x4)] [] M := by
  unfold f_law_c8 at h
  refine g_aload_n d_Law_law_526 rfl 1 rfl ?_
  refine g_aload_n d_Law_law_527 rfl 0 rfl ?_
  refine g_iload d_Law_law_528 4 rfl ?_
  refine g_iconst (v := 1) d_Law_law_530 (by decide) ?_
  refine g_iadd d_Law_law_531 ?_
  obtain ⟨v59, hv59, h⟩ := gOb h
  refine g_sld d_Law_law_532 hv59 ?_
  refine g_i2l d_Law_law_533 ?_
  refine g_bipush (v := 32) d_Law_law_534 (by decide) ?_
  refine g_shl d_Law_law_536 ?_
  refine g_aload_n d_Law_law_537 rfl 0 rfl ?_
  refine g_iload d_Law_law_538 4 rfl ?_
  refine g_iconst (v := 2) d_Law_law_540 (by decide) ?_
  refine g_iadd d_Law_law_541 ?_
  obtain ⟨v60, hv60, h⟩ := gOb h
  refine g_sld d_Law_law_542 hv60 ?_
  refine g_i2l d_Law_law_543 ?_
  refine g_ldc2 d_Law_law_544 w_1267 ?_
  refine g_land d_Law_law_547 ?_
  refine g_lor d_Law_law_548 ?_
  obtain ⟨q61, hq61, h⟩ := gOb h
  refine g_callV_i (As := [.long ((gShl (Int32.toInt64 v59) 32) ||| ((Int32.toInt64 v60) &&& (4294967295)))]) (rest := []) (ct_DS_deal hX M ((gShl (Int32.toInt64 v59) 32) ||| ((Int32.toInt64 v60) &&& (4294967295))) _ hq61) d_Law_law_549 ca_DS_deal w_318 (gXw_h0 hX) rfl rfl rfl (Nat.le_of_ble_eq_true rfl) ⟨Nat.le_of_ble_eq_true rfl, Nat.le_of_ble_eq_true rfl⟩ ?_
  refine g_aload_n d_Law_law_552 rfl 2 rfl ?_
  refine g_aload_n d_Law_law_553 rfl 0 rfl ?_
  refine g_iload d_Law_law_554 4 rfl ?_
  refine g_iconst (v := 1) d_Law_law_556 (by decide) ?_
  refine g_iadd d_Law_law_557 ?_
  obtain ⟨v62, hv62, h⟩ := gOb h
  refine g_sld d_Law_law_558 hv62 ?_
  refine g_i2l d_Law_law_559 ?_
  refine g_bipush (v := 32) d_Law_law_560 (by decide) ?_
  refine g_shl d_Law_law_562 ?_
  refine g_aload_n d_Law_law_563 rfl 0 rfl ?_
  refine g_iload d_Law_law_564 4 rfl ?_
  refine g_iconst (v := 2) d_Law_law_566 (by decide) ?_
  refine g_iadd d_Law_law_567 ?_
  obtain ⟨v63, hv63, h⟩ := gOb h
  refine g_sld d_Law_law_568 hv63 ?_
  refine g_i2l d_Law_law_569 ?_
  refine g_ldc2 d_Law_law_570 w_1267 ?_
  refine g_land d_Law_law_573 ?_
  refine g_lor d_Law_law_574 ?_
  obtain ⟨q64, hq64, h⟩ := gOb h
  refine g_callV_i (As := [.long ((gShl (Int32.toInt64 v62) 32) ||| ((Int32.toInt64 v63) &&& (4294967295)))]) (rest := [.int q61.1]) (ct_Mo_deal hM q61.2 ((gShl (Int32.toInt64 v62) 32) ||| ((Int32.toInt64 v63) &&& (4294967295))) _ hq64) d_Law_law_575 ca_Mo_deal w_1160 (gMo_h0 hM) rfl rfl rfl (Nat.le_of_ble_eq_true rfl) ⟨Nat.le_of_ble_eq_true rfl, Nat.le_of_ble_eq_true rfl⟩ ?_
  refine g_icmp_eq (tgt := 1384) d_Law_law_578 (by decide) (fun c65 => ?_) (fun c65 => ?_)
  · rw [if_pos c65] at h
    obtain rfl := Option.some.inj h
    exact g_use (Nat.le_succ _) (Nat.le_add_right _ _) hc hs kk
  · rw [if_neg c65] at h
    cases h
noncomputable def f_law_c9 (Ls : Nat) (xs : Nat → Int32) (M : gMem) (x4 : Int32) : Option gMem :=
  (gSc Ls xs (x4 + 1)).bind fun v66 =>
  (gSc Ls xs (x4 + 2)).bind fun v67 =>
  (f_Law_bid M v66 v67).bind fun q68 =>
  (gSc Ls xs (x4 + 1)).bind fun v69 =>
  (gSc Ls xs (x4 + 2)).bind fun v70 =>
  (f_Mo_bid q68.2 v69 v70).bind fun q71 =>
  (f_Mo_thrown q71.2).bind fun q72 =>
  if q72 = q68.1 then
    if q68.1 = 0 then
      if (lg_cmp (gGO q71.2) (Int32.toInt64 q71.1)) = 0 then
        some q71.2
      else
        none
    else
      some q71.2
  else
    none
theorem t_law_c9 {l : Launch} {ε : gEnv} {b : Nat} (hl0 : l.stackTraces = false) (hX : gXw ε) (hM : gMo ε) (hO : gHas ε 20 0 (4, 1, [])) (Ls : Nat) (xs : Nat → Int32) {ka na : Nat} (hc : ka + 1 ≤ 601024) (hs : na + 6 ≤ 7293034) (M : gMem) (x4 : Int32) (r : gMem) (h : f_law_c9 Ls xs M x4 = some r) (kk : gGo l ε k_law room_1 (gFm b Ls xs (ka + 1) (na + 6)) 1384 [(0, .ref b), (1, .ref (ε.2.2.1 18 0)), (2, .ref (ε.2.2.1 19 0)), (3, .ref (ε.2.2.1 20 0)), (4, .int x4)] [] r) : gGo l ε k_law room_1 (gFm b Ls xs ka na) 583 [(0, .ref b), (1, .ref (ε.2.2.1 18 0)), (2, .ref (ε.2.2.1 19 0)), (3, .ref (ε.2.2.1 20 0)), (4, .int x4)] [] M := by
  unfold f_law_c9 at h
  refine g_aload_n d_Law_law_583 rfl 1 rfl ?_
  refine g_aload_n d_Law_law_584 rfl 0 rfl ?_
  refine g_iload d_Law_law_585 4 rfl ?_
  refine g_iconst (v := 1) d_Law_law_587 (by decide) ?_
  refine g_iadd d_Law_law_588 ?_
  obtain ⟨v66, hv66, h⟩ := gOb h
  refine g_sld d_Law_law_589 hv66 ?_
  refine g_aload_n d_Law_law_590 rfl 0 rfl ?_
  refine g_iload d_Law_law_591 4 rfl ?_
  refine g_iconst (v := 2) d_Law_law_593 (by decide) ?_
  refine g_iadd d_Law_law_594 ?_
  obtain ⟨v67, hv67, h⟩ := gOb h
  refine g_sld d_Law_law_595 hv67 ?_
  refine g_aload_n d_Law_law_596 rfl 3 rfl ?_
  obtain ⟨q68, hq68, h⟩ := gOb h
  refine g_callLaw (k := 4) (As := [.ref (ε.2.2.1 18 0), .int v66, .int v67, .ref (ε.2.2.1 20 0)]) (rest := []) (fun hl0 => ctl_Law_bid hl0 hX hO M v66 v67 _ hq68) d_Law_law_597 cw_Law_bid w_33 w_737 w_736 (by decide +kernel) rfl rfl (Nat.le_of_ble_eq_true rfl) ⟨Nat.le_of_ble_eq_true rfl, Nat.le_of_ble_eq_true rfl⟩ hc hs ?_
  refine g_istore (L' := [(5, .int q68.1), (0, .ref b), (1, .ref (ε.2.2.1 18 0)), (2, .ref (ε.2.2.1 19 0)), (3, .ref (ε.2.2.1 20 0)), (4, .int x4)]) d_Law_law_600 (by decide) rfl ?_
  refine g_aload_n d_Law_law_602 rfl 3 rfl ?_
  refine g_aload_n d_Law_law_603 rfl 1 rfl ?_
  refine g_iload d_Law_law_604 5 rfl ?_
  refine g_iconst (v := 1) d_Law_law_606 (by decide) ?_
  refine g_iadd d_Law_law_607 ?_
  obtain ⟨v69, hv69, h⟩ := gOb h
  refine g_sld d_Law_law_608 hv69 ?_
  refine g_aload_n d_Law_law_609 rfl 1 rfl ?_
  refine g_iload d_Law_law_610 5 rfl ?_
  refine g_iconst (v := 2) d_Law_law_612 (by decide) ?_
  refine g_iadd d_Law_law_613 ?_
  obtain ⟨v70, hv70, h⟩ := gOb h
  refine g_sld d_Law_law_614 hv70 ?_
  obtain ⟨q71, hq71, h⟩ := gOb h
  refine g_callV_i (As := [.int v69, .int v70]) (rest := []) (ct_Mo_bid hM q68.2 v69 v70 _ hq71) d_Law_law_615 ca_Mo_bid w_1168 (gMo_h0 hM) rfl rfl rfl (Nat.le_of_ble_eq_true rfl) ⟨Nat.le_of_ble_eq_true rfl, Nat.le_of_ble_eq_true rfl⟩ ?_
  refine g_istore (L' := [(6, .int q71.1), (5, .int q68.1), (0, .ref b), (1, .ref (ε.2.2.1 18 0)), (2, .ref (ε.2.2.1 19 0)), (3, .ref (ε.2.2.1 20 0)), (4, .int x4)]) d_Law_law_618 (by decide) rfl ?_
  refine g_aload_n d_Law_law_620 rfl 4 rfl ?_
  obtain ⟨q72, hq72, h⟩ := gOb h
  refine g_callV_i (As := []) (rest := []) (ct_Mo_thrown hM q71.2 _ hq72) d_Law_law_621 ca_Mo_thrown w_1022 (gMo_h0 hM) rfl rfl rfl (Nat.le_of_ble_eq_true rfl) ⟨Nat.le_of_ble_eq_true rfl, Nat.le_of_ble_eq_true rfl⟩ ?_
  refine g_iload d_Law_law_624 1 rfl ?_
  refine g_icmp_eq (tgt := 631) d_Law_law_626 (by decide) (fun c75 => ?_) (fun c75 => ?_)
  · rw [if_pos c75] at h
    refine g_iload d_Law_law_631 1 rfl ?_
    refine g_if_ne (tgt := 648) d_Law_law_633 (by decide) (fun c74 => ?_) (fun c74 => ?_)
    · rw [if_neg c74] at h
      refine g_goto (tgt := 1384) d_Law_law_648 (by decide) ?_
      refine gGo_sub [2, 3, 4, 5, 6] rfl ?_
      obtain rfl := Option.some.inj h
      exact kk
    · rw [if_pos c74] at h
      refine g_aload_n d_Law_law_636 rfl 5 rfl ?_
      refine g_iconst (v := 0) d_Law_law_637 (by decide) ?_
      refine g_laload d_Law_law_638 hO ?_
      refine g_iload d_Law_law_639 0 rfl ?_
      refine g_i2l d_Law_law_641 ?_
      refine g_lcmp d_Law_law_642 ?_
      refine g_if_eq (tgt := 648) d_Law_law_643 (by decide) (fun c73 => ?_) (fun c73 => ?_)
      · rw [if_pos c73] at h
        refine g_goto (tgt := 1384) d_Law_law_648 (by decide) ?_
        refine gGo_sub [2, 3, 4, 5, 6] rfl ?_
        obtain rfl := Option.some.inj h
        exact kk
      · rw [if_neg c73] at h
        cases h
  · rw [if_neg c75] at h
    cases h
noncomputable def f_law_c10 (Ls : Nat) (xs : Nat → Int32) (M : gMem) (x4 : Int32) : Option gMem :=
  (f_Law_pass M).bind fun q76 =>
  (f_Mo_pass q76.2).bind fun q77 =>
  (f_Mo_thrown q77.2).bind fun q78 =>
  if q78 = q76.1 then
    if q76.1 = 0 then
      if (lg_cmp (gGO q77.2) (Int32.toInt64 q77.1)) = 0 then
        some q77.2
      else
        none
    else
      some q77.2
  else
    none
theorem t_law_c10 {l : Launch} {ε : gEnv} {b : Nat} (hl0 : l.stackTraces = false) (hX : gXw ε) (hM : gMo ε) (hO : gHas ε 20 0 (4, 1, [])) (Ls : Nat) (xs : Nat → Int32) {ka na : Nat} (hc : ka + 1 ≤ 601024) (hs : na + 6 ≤ 7293034) (M : gMem) (x4 : Int32) (r : gMem) (h : f_law_c10 Ls xs M x4 = some r) (kk : gGo l ε k_law room_1 (gFm b Ls xs (ka + 1) (na + 6)) 1384 [(0, .ref b), (1, .ref (ε.2.2.1 18 0)), (2, .ref (ε.2.2.1 19 0)), (3, .ref (ε.2.2.1 20 0)), (4, .int x4)] [] r) : gGo l ε k_law room_1 (gFm b Ls xs ka na) 651 [(0, .ref b), (1, .ref (ε.2.2.1 18 0)), (2, .ref (ε.2.2.1 19 0)), (3, .ref (ε.2.2.1 20 0)), (4, .int x4)] [] M := by
  unfold f_law_c10 at h
  refine g_aload_n d_Law_law_651 rfl 1 rfl ?_
  refine g_aload_n d_Law_law_652 rfl 3 rfl ?_
  obtain ⟨q76, hq76, h⟩ := gOb h
  refine g_callLaw (k := 2) (As := [.ref (ε.2.2.1 18 0), .ref (ε.2.2.1 20 0)]) (rest := []) (fun hl0 => ctl_Law_pass hl0 hX hO M _ hq76) d_Law_law_653 cw_Law_pass w_33 w_749 w_748 (by decide +kernel) rfl rfl (Nat.le_of_ble_eq_true rfl) ⟨Nat.le_of_ble_eq_true rfl, Nat.le_of_ble_eq_true rfl⟩ hc hs ?_
  refine g_istore (L' := [(5, .int q76.1), (0, .ref b), (1, .ref (ε.2.2.1 18 0)), (2, .ref (ε.2.2.1 19 0)), (3, .ref (ε.2.2.1 20 0)), (4, .int x4)]) d_Law_law_656 (by decide) rfl ?_
  refine g_aload_n d_Law_law_658 rfl 3 rfl ?_
  obtain ⟨q77, hq77, h⟩ := gOb h
  refine g_callV_i (As := []) (rest := []) (ct_Mo_pass hM q76.2 _ hq77) d_Law_law_659 ca_Mo_pass w_1176 (gMo_h0 hM) rfl rfl rfl (Nat.le_of_ble_eq_true rfl) ⟨Nat.le_of_ble_eq_true rfl, Nat.le_of_ble_eq_true rfl⟩ ?_
  refine g_istore (L' := [(6, .int q77.1), (5, .int q76.1), (0, .ref b), (1, .ref (ε.2.2.1 18 0)), (2, .ref (ε.2.2.1 19 0)), (3, .ref (ε.2.2.1 20 0)), (4, .int x4)]) d_Law_law_662 (by decide) rfl ?_
  refine g_aload_n d_Law_law_664 rfl 4 rfl ?_
  obtain ⟨q78, hq78, h⟩ := gOb h
  refine g_callV_i (As := []) (rest := []) (ct_Mo_thrown hM q77.2 _ hq78) d_Law_law_665 ca_Mo_thrown w_1022 (gMo_h0 hM) rfl rfl rfl (Nat.le_of_ble_eq_true rfl) ⟨Nat.le_of_ble_eq_true rfl, Nat.le_of_ble_eq_true rfl⟩ ?_
  refine g_iload d_Law_law_668 1 rfl ?_
  refine g_icmp_eq (tgt := 675) d_Law_law_670 (by decide) (fun c81 => ?_) (fun c81 => ?_)
  · rw [if_pos c81] at h
    refine g_iload d_Law_law_675 1 rfl ?_
    refine g_if_ne (tgt := 692) d_Law_law_677 (by decide) (fun c80 => ?_) (fun c80 => ?_)
    · rw [if_neg c80] at h
      refine g_goto (tgt := 1384) d_Law_law_692 (by decide) ?_
      refine gGo_sub [2, 3, 4, 5, 6] rfl ?_
      obtain rfl := Option.some.inj h
      exact kk
    · rw [if_pos c80] at h
      refine g_aload_n d_Law_law_680 rfl 5 rfl ?_
      refine g_iconst (v := 0) d_Law_law_681 (by decide) ?_
      refine g_laload d_Law_law_682 hO ?_
      refine g_iload d_Law_law_683 0 rfl ?_
      refine g_i2l d_Law_law_685 ?_
      refine g_lcmp d_Law_law_686 ?_
      refine g_if_eq (tgt := 692) d_Law_law_687 (by decide) (fun c79 => ?_) (fun c79 => ?_)
      · rw [if_pos c79] at h
        refine g_goto (tgt := 1384) d_Law_law_692 (by decide) ?_
        refine gGo_sub [2, 3, 4, 5, 6] rfl ?_
        obtain rfl := Option.some.inj h
        exact kk
      · rw [if_neg c79] at h
        cases h
  · rw [if_neg c81] at h
    cases h
noncomputable def f_law_c11 (Ls : Nat) (xs : Nat → Int32) (M : gMem) (x4 : Int32) : Option gMem :=
  (gSc Ls xs (x4 + 1)).bind fun v82 =>
  (f_Law_play M v82).bind fun q83 =>
  (gSc Ls xs (x4 + 1)).bind fun v84 =>
  (f_Mo_play q83.2 v84).bind fun q85 =>
  (f_Mo_thrown q85.2).bind fun q86 =>
  if q86 = q83.1 then
    if q83.1 = 0 then
      if (lg_cmp (gGO q85.2) (Int32.toInt64 q85.1)) = 0 then
        some q85.2
      else
        none
    else
      some q85.2
  else
    none
theorem t_law_c11 {l : Launch} {ε : gEnv} {b : Nat} (hl0 : l.stackTraces = false) (hX : gXw ε) (hM : gMo ε) (hO : gHas ε 20 0 (4, 1, [])) (Ls : Nat) (xs : Nat → Int32) {ka na : Nat} (hc : ka + 1 ≤ 601024) (hs : na + 6 ≤ 7293034) (M : gMem) (x4 : Int32) (r : gMem) (h : f_law_c11 Ls xs M x4 = some r) (kk : gGo l ε k_law room_1 (gFm b Ls xs (ka + 1) (na + 6)) 1384 [(0, .ref b), (1, .ref (ε.2.2.1 18 0)), (2, .ref (ε.2.2.1 19 0)), (3, .ref (ε.2.2.1 20 0)), (4, .int x4)] [] r) : gGo l ε k_law room_1 (gFm b Ls xs ka na) 695 [(0, .ref b), (1, .ref (ε.2.2.1 18 0)), (2, .ref (ε.2.2.1 19 0)), (3, .ref (ε.2.2.1 20 0)), (4, .int x4)] [] M := by
  unfold f_law_c11 at h
  refine g_aload_n d_Law_law_695 rfl 1 rfl ?_
  refine g_aload_n d_Law_law_696 rfl 0 rfl ?_
  refine g_iload d_Law_law_697 4 rfl ?_
  refine g_iconst (v := 1) d_Law_law_699 (by decide) ?_
  refine g_iadd d_Law_law_700 ?_
  obtain ⟨v82, hv82, h⟩ := gOb h
  refine g_sld d_Law_law_701 hv82 ?_
  refine g_aload_n d_Law_law_702 rfl 3 rfl ?_
  obtain ⟨q83, hq83, h⟩ := gOb h
  refine g_callLaw (k := 3) (As := [.ref (ε.2.2.1 18 0), .int v82, .ref (ε.2.2.1 20 0)]) (rest := []) (fun hl0 => ctl_Law_play hl0 hX hO M v82 _ hq83) d_Law_law_703 cw_Law_play w_33 w_758 w_757 (by decide +kernel) rfl rfl (Nat.le_of_ble_eq_true rfl) ⟨Nat.le_of_ble_eq_true rfl, Nat.le_of_ble_eq_true rfl⟩ hc hs ?_
  refine g_istore (L' := [(5, .int q83.1), (0, .ref b), (1, .ref (ε.2.2.1 18 0)), (2, .ref (ε.2.2.1 19 0)), (3, .ref (ε.2.2.1 20 0)), (4, .int x4)]) d_Law_law_706 (by decide) rfl ?_
  refine g_aload_n d_Law_law_708 rfl 3 rfl ?_
  refine g_aload_n d_Law_law_709 rfl 1 rfl ?_
  refine g_iload d_Law_law_710 5 rfl ?_
  refine g_iconst (v := 1) d_Law_law_712 (by decide) ?_
  refine g_iadd d_Law_law_713 ?_
  obtain ⟨v84, hv84, h⟩ := gOb h
  refine g_sld d_Law_law_714 hv84 ?_
  obtain ⟨q85, hq85, h⟩ := gOb h
  refine g_callV_i (As := [.int v84]) (rest := []) (ct_Mo_play hM q83.2 v84 _ hq85) d_Law_law_715 ca_Mo_play w_1180 (gMo_h0 hM) rfl rfl rfl (Nat.le_of_ble_eq_true rfl) ⟨Nat.le_of_ble_eq_true rfl, Nat.le_of_ble_eq_true rfl⟩ ?_
  refine g_istore (L' := [(6, .int q85.1), (5, .int q83.1), (0, .ref b), (1, .ref (ε.2.2.1 18 0)), (2, .ref (ε.2.2.1 19 0)), (3, .ref (ε.2.2.1 20 0)), (4, .int x4)]) d_Law_law_718 (by decide) rfl ?_
  refine g_aload_n d_Law_law_720 rfl 4 rfl ?_
  obtain ⟨q86, hq86, h⟩ := gOb h
  refine g_callV_i (As := []) (rest := []) (ct_Mo_thrown hM q85.2 _ hq86) d_Law_law_721 ca_Mo_thrown w_1022 (gMo_h0 hM) rfl rfl rfl (Nat.le_of_ble_eq_true rfl) ⟨Nat.le_of_ble_eq_true rfl, Nat.le_of_ble_eq_true rfl⟩ ?_
  refine g_iload d_Law_law_724 1 rfl ?_
  refine g_icmp_eq (tgt := 731) d_Law_law_726 (by decide) (fun c89 => ?_) (fun c89 => ?_)
  · rw [if_pos c89] at h
    refine g_iload d_Law_law_731 1 rfl ?_
    refine g_if_ne (tgt := 748) d_Law_law_733 (by decide) (fun c88 => ?_) (fun c88 => ?_)
    · rw [if_neg c88] at h
      refine g_goto (tgt := 1384) d_Law_law_748 (by decide) ?_
      refine gGo_sub [2, 3, 4, 5, 6] rfl ?_
      obtain rfl := Option.some.inj h
      exact kk
    · rw [if_pos c88] at h
      refine g_aload_n d_Law_law_736 rfl 5 rfl ?_
      refine g_iconst (v := 0) d_Law_law_737 (by decide) ?_
      refine g_laload d_Law_law_738 hO ?_
      refine g_iload d_Law_law_739 0 rfl ?_
      refine g_i2l d_Law_law_741 ?_
      refine g_lcmp d_Law_law_742 ?_
      refine g_if_eq (tgt := 748) d_Law_law_743 (by decide) (fun c87 => ?_) (fun c87 => ?_)
      · rw [if_pos c87] at h
        refine g_goto (tgt := 1384) d_Law_law_748 (by decide) ?_
        refine gGo_sub [2, 3, 4, 5, 6] rfl ?_
        obtain rfl := Option.some.inj h
        exact kk
      · rw [if_neg c87] at h
        cases h
  · rw [if_neg c89] at h
    cases h
noncomputable def f_law_c12 (Ls : Nat) (xs : Nat → Int32) (M : gMem) (x4 : Int32) : Option gMem :=
  (f_Law_undo M).bind fun q90 =>
  (f_Mo_undo q90.2).bind fun q91 =>
  (f_Mo_thrown q91.2).bind fun q92 =>
  if q92 = q90.1 then
    if q90.1 = 0 then
      if (lg_cmp (gGO q91.2) (Int32.toInt64 q91.1)) = 0 then
        some q91.2
      else
        none
    else
      some q91.2
  else
    none
theorem t_law_c12 {l : Launch} {ε : gEnv} {b : Nat} (hl0 : l.stackTraces = false) (hX : gXw ε) (hM : gMo ε) (hO : gHas ε 20 0 (4, 1, [])) (Ls : Nat) (xs : Nat → Int32) {ka na : Nat} (hc : ka + 1 ≤ 601024) (hs : na + 6 ≤ 7293034) (M : gMem) (x4 : Int32) (r : gMem) (h : f_law_c12 Ls xs M x4 = some r) (kk : gGo l ε k_law room_1 (gFm b Ls xs (ka + 1) (na + 6)) 1384 [(0, .ref b), (1, .ref (ε.2.2.1 18 0)), (2, .ref (ε.2.2.1 19 0)), (3, .ref (ε.2.2.1 20 0)), (4, .int x4)] [] r) : gGo l ε k_law room_1 (gFm b Ls xs ka na) 751 [(0, .ref b), (1, .ref (ε.2.2.1 18 0)), (2, .ref (ε.2.2.1 19 0)), (3, .ref (ε.2.2.1 20 0)), (4, .int x4)] [] M := by
  unfold f_law_c12 at h
  refine g_aload_n d_Law_law_751 rfl 1 rfl ?_
  refine g_aload_n d_Law_law_752 rfl 3 rfl ?_
  obtain ⟨q90, hq90, h⟩ := gOb h
  refine g_callLaw (k := 2) (As := [.ref (ε.2.2.1 18 0), .ref (ε.2.2.1 20 0)]) (rest := []) (fun hl0 => ctl_Law_undo hl0 hX hO M _ hq90) d_Law_law_753 cw_Law_undo w_33 w_772 w_771 (by decide +kernel) rfl rfl (Nat.le_of_ble_eq_true rfl) ⟨Nat.le_of_ble_eq_true rfl, Nat.le_of_ble_eq_true rfl⟩ hc hs ?_
  refine g_istore (L' := [(5, .int q90.1), (0, .ref b), (1, .ref (ε.2.2.1 18 0)), (2, .ref (ε.2.2.1 19 0)), (3, .ref (ε.2.2.1 20 0)), (4, .int x4)]) d_Law_law_756 (by decide) rfl ?_
  refine g_aload_n d_Law_law_758 rfl 3 rfl ?_
  obtain ⟨q91, hq91, h⟩ := gOb h
  refine g_callV_i (As := []) (rest := []) (ct_Mo_undo hM q90.2 _ hq91) d_Law_law_759 ca_Mo_undo w_1184 (gMo_h0 hM) rfl rfl rfl (Nat.le_of_ble_eq_true rfl) ⟨Nat.le_of_ble_eq_true rfl, Nat.le_of_ble_eq_true rfl⟩ ?_
  refine g_istore (L' := [(6, .int q91.1), (5, .int q90.1), (0, .ref b), (1, .ref (ε.2.2.1 18 0)), (2, .ref (ε.2.2.1 19 0)), (3, .ref (ε.2.2.1 20 0)), (4, .int x4)]) d_Law_law_762 (by decide) rfl ?_
  refine g_aload_n d_Law_law_764 rfl 4 rfl ?_
  obtain ⟨q92, hq92, h⟩ := gOb h
  refine g_callV_i (As := []) (rest := []) (ct_Mo_thrown hM q91.2 _ hq92) d_Law_law_765 ca_Mo_thrown w_1022 (gMo_h0 hM) rfl rfl rfl (Nat.le_of_ble_eq_true rfl) ⟨Nat.le_of_ble_eq_true rfl, Nat.le_of_ble_eq_true rfl⟩ ?_
  refine g_iload d_Law_law_768 1 rfl ?_
  refine g_icmp_eq (tgt := 775) d_Law_law_770 (by decide) (fun c95 => ?_) (fun c95 => ?_)
  · rw [if_pos c95] at h
    refine g_iload d_Law_law_775 1 rfl ?_
    refine g_if_ne (tgt := 792) d_Law_law_777 (by decide) (fun c94 => ?_) (fun c94 => ?_)
    · rw [if_neg c94] at h
      refine g_goto (tgt := 1384) d_Law_law_792 (by decide) ?_
      refine gGo_sub [2, 3, 4, 5, 6] rfl ?_
      obtain rfl := Option.some.inj h
      exact kk
    · rw [if_pos c94] at h
      refine g_aload_n d_Law_law_780 rfl 5 rfl ?_
      refine g_iconst (v := 0) d_Law_law_781 (by decide) ?_
      refine g_laload d_Law_law_782 hO ?_
      refine g_iload d_Law_law_783 0 rfl ?_
      refine g_i2l d_Law_law_785 ?_
      refine g_lcmp d_Law_law_786 ?_
      refine g_if_eq (tgt := 792) d_Law_law_787 (by decide) (fun c93 => ?_) (fun c93 => ?_)
      · rw [if_pos c93] at h
        refine g_goto (tgt := 1384) d_Law_law_792 (by decide) ?_
        refine gGo_sub [2, 3, 4, 5, 6] rfl ?_
        obtain rfl := Option.some.inj h
        exact kk
      · rw [if_neg c93] at h
        cases h
  · rw [if_neg c95] at h
    cases h
noncomputable def f_law_c13 (Ls : Nat) (xs : Nat → Int32) (M : gMem) (x4 : Int32) : Option gMem :=
  (gSc Ls xs (x4 + 1)).bind fun v96 =>
  (f_Law_legal M v96).bind fun q97 =>
  (gSc Ls xs (x4 + 1)).bind fun v98 =>
  (f_Mo_legal q97.2 v98).bind fun q99 =>
  (f_Mo_thrown q99.2).bind fun q100 =>
  if q100 = q97.1 then
    if q97.1 = 0 then
      if (lg_cmp (gGO q99.2) (Int32.toInt64 q99.1)) = 0 then
        some q99.2
      else
        none
    else
      some q99.2
  else
    none
theorem t_law_c13 {l : Launch} {ε : gEnv} {b : Nat} (hl0 : l.stackTraces = false) (hX : gXw ε) (hM : gMo ε) (hO : gHas ε 20 0 (4, 1, [])) (Ls : Nat) (xs : Nat → Int32) {ka na : Nat} (hc : ka + 1 ≤ 601024) (hs : na + 6 ≤ 7293034) (M : gMem) (x4 : Int32) (r : gMem) (h : f_law_c13 Ls xs M x4 = some r) (kk : gGo l ε k_law room_1 (gFm b Ls xs (ka + 1) (na + 6)) 1384 [(0, .ref b), (1, .ref (ε.2.2.1 18 0)), (2, .ref (ε.2.2.1 19 0)), (3, .ref (ε.2.2.1 20 0)), (4, .int x4)] [] r) : gGo l ε k_law room_1 (gFm b Ls xs ka na) 795 [(0, .ref b), (1, .ref (ε.2.2.1 18 0)), (2, .ref (ε.2.2.1 19 0)), (3, .ref (ε.2.2.1 20 0)), (4, .int x4)] [] M := by
  unfold f_law_c13 at h
  refine g_aload_n d_Law_law_795 rfl 1 rfl ?_
  refine g_aload_n d_Law_law_796 rfl 0 rfl ?_
  refine g_iload d_Law_law_797 4 rfl ?_
  refine g_iconst (v := 1) d_Law_law_799 (by decide) ?_
  refine g_iadd d_Law_law_800 ?_
  obtain ⟨v96, hv96, h⟩ := gOb h
  refine g_sld d_Law_law_801 hv96 ?_
  refine g_aload_n d_Law_law_802 rfl 3 rfl ?_
  obtain ⟨q97, hq97, h⟩ := gOb h
  refine g_callLaw (k := 3) (As := [.ref (ε.2.2.1 18 0), .int v96, .ref (ε.2.2.1 20 0)]) (rest := []) (fun hl0 => ctl_Law_legal hl0 hX hO M v96 _ hq97) d_Law_law_803 cw_Law_legal w_33 w_788 w_787 (by decide +kernel) rfl rfl (Nat.le_of_ble_eq_true rfl) ⟨Nat.le_of_ble_eq_true rfl, Nat.le_of_ble_eq_true rfl⟩ hc hs ?_
  refine g_istore (L' := [(5, .int q97.1), (0, .ref b), (1, .ref (ε.2.2.1 18 0)), (2, .ref (ε.2.2.1 19 0)), (3, .ref (ε.2.2.1 20 0)), (4, .int x4)]) d_Law_law_806 (by decide) rfl ?_
  refine g_aload_n d_Law_law_808 rfl 3 rfl ?_
  refine g_aload_n d_Law_law_809 rfl 1 rfl ?_
  refine g_iload d_Law_law_810 5 rfl ?_
  refine g_iconst (v := 1) d_Law_law_812 (by decide) ?_
  refine g_iadd d_Law_law_813 ?_
  obtain ⟨v98, hv98, h⟩ := gOb h
  refine g_sld d_Law_law_814 hv98 ?_
  obtain ⟨q99, hq99, h⟩ := gOb h
  refine g_callV_i (As := [.int v98]) (rest := []) (ct_Mo_legal hM q97.2 v98 _ hq99) d_Law_law_815 ca_Mo_legal w_1188 (gMo_h0 hM) rfl rfl rfl (Nat.le_of_ble_eq_true rfl) ⟨Nat.le_of_ble_eq_true rfl, Nat.le_of_ble_eq_true rfl⟩ ?_
  refine g_istore (L' := [(6, .int q99.1), (5, .int q97.1), (0, .ref b), (1, .ref (ε.2.2.1 18 0)), (2, .ref (ε.2.2.1 19 0)), (3, .ref (ε.2.2.1 20 0)), (4, .int x4)]) d_Law_law_818 (by decide) rfl ?_
  refine g_aload_n d_Law_law_820 rfl 4 rfl ?_
  obtain ⟨q100, hq100, h⟩ := gOb h
  refine g_callV_i (As := []) (rest := []) (ct_Mo_thrown hM q99.2 _ hq100) d_Law_law_821 ca_Mo_thrown w_1022 (gMo_h0 hM) rfl rfl rfl (Nat.le_of_ble_eq_true rfl) ⟨Nat.le_of_ble_eq_true rfl, Nat.le_of_ble_eq_true rfl⟩ ?_
  refine g_iload d_Law_law_824 1 rfl ?_
  refine g_icmp_eq (tgt := 831) d_Law_law_826 (by decide) (fun c103 => ?_) (fun c103 => ?_)
  · rw [if_pos c103] at h
    refine g_iload d_Law_law_831 1 rfl ?_
    refine g_if_ne (tgt := 848) d_Law_law_833 (by decide) (fun c102 => ?_) (fun c102 => ?_)
    · rw [if_neg c102] at h
      refine g_goto (tgt := 1384) d_Law_law_848 (by decide) ?_
      refine gGo_sub [2, 3, 4, 5, 6] rfl ?_
      obtain rfl := Option.some.inj h
      exact kk
    · rw [if_pos c102] at h
      refine g_aload_n d_Law_law_836 rfl 5 rfl ?_
      refine g_iconst (v := 0) d_Law_law_837 (by decide) ?_
      refine g_laload d_Law_law_838 hO ?_
      refine g_iload d_Law_law_839 0 rfl ?_
      refine g_i2l d_Law_law_841 ?_
      refine g_lcmp d_Law_law_842 ?_
      refine g_if_eq (tgt := 848) d_Law_law_843 (by decide) (fun c101 => ?_) (fun c101 => ?_)
      · rw [if_pos c101] at h
        refine g_goto (tgt := 1384) d_Law_law_848 (by decide) ?_
        refine gGo_sub [2, 3, 4, 5, 6] rfl ?_
        obtain rfl := Option.some.inj h
        exact kk
      · rw [if_neg c101] at h
        cases h
  · rw [if_neg c103] at h
    cases h
noncomputable def f_law_c14 (Ls : Nat) (xs : Nat → Int32) (M : gMem) (x4 : Int32) : Option gMem :=
  (f_DS_advice M).bind fun q104 =>
  (f_Mo_advice M).bind fun q105 =>
  if q104 = q105.1 then
    some q105.2
  else
    none
theorem t_law_c14 {l : Launch} {ε : gEnv} {b : Nat} (hl0 : l.stackTraces = false) (hX : gXw ε) (hM : gMo ε) (hO : gHas ε 20 0 (4, 1, [])) (Ls : Nat) (xs : Nat → Int32) {ka na : Nat} (hc : ka + 1 ≤ 601024) (hs : na + 6 ≤ 7293034) (M : gMem) (x4 : Int32) (r : gMem) (h : f_law_c14 Ls xs M x4 = some r) (kk : gGo l ε k_law room_1 (gFm b Ls xs (ka + 1) (na + 6)) 1384 [(0, .ref b), (1, .ref (ε.2.2.1 18 0)), (2, .ref (ε.2.2.1 19 0)), (3, .ref (ε.2.2.1 20 0)), (4, .int x4)] [] r) : gGo l ε k_law room_1 (gFm b Ls xs ka na) 851 [(0, .ref b), (1, .ref (ε.2.2.1 18 0)), (2, .ref (ε.2.2.1 19 0)), (3, .ref (ε.2.2.1 20 0)), (4, .int x4)] [] M := by
  unfold f_law_c14 at h
  refine g_aload_n d_Law_law_851 rfl 1 rfl ?_
  obtain ⟨q104, hq104, h⟩ := gOb h
  refine g_callV_i (As := []) (rest := []) (ct_DS_advice hX M _ hq104) d_Law_law_852 ca_DS_advice w_374 (gXw_h0 hX) rfl rfl rfl (Nat.le_of_ble_eq_true rfl) ⟨Nat.le_of_ble_eq_true rfl, Nat.le_of_ble_eq_true rfl⟩ ?_
  refine g_aload_n d_Law_law_855 rfl 2 rfl ?_
  obtain ⟨q105, hq105, h⟩ := gOb h
  refine g_callV_i (As := []) (rest := [.int q104]) (ct_Mo_advice hM M _ hq105) d_Law_law_856 ca_Mo_advice w_1196 (gMo_h0 hM) rfl rfl rfl (Nat.le_of_ble_eq_true rfl) ⟨Nat.le_of_ble_eq_true rfl, Nat.le_of_ble_eq_true rfl⟩ ?_
  refine g_icmp_eq (tgt := 1384) d_Law_law_859 (by decide) (fun c106 => ?_) (fun c106 => ?_)
  · rw [if_pos c106] at h
    obtain rfl := Option.some.inj h
    exact g_use (Nat.le_succ _) (Nat.le_add_right _ _) hc hs kk
  · rw [if_neg c106] at h
    cases h
noncomputable def f_law_c15 (Ls : Nat) (xs : Nat → Int32) (M : gMem) (x4 : Int32) : Option gMem :=
  (gSc Ls xs (x4 + 1)).bind fun v107 =>
  (gSc Ls xs (x4 + 2)).bind fun v108 =>
  (gSc Ls xs (x4 + 3)).bind fun v109 =>
  (gSc Ls xs (x4 + 4)).bind fun v110 =>
  if v110 = 0 then
    (f_Law_mayHave M v107 v108 v109 0).bind fun q111 =>
    (gSc Ls xs (x4 + 1)).bind fun v112 =>
    (gSc Ls xs (x4 + 2)).bind fun v113 =>
    (gSc Ls xs (x4 + 3)).bind fun v114 =>
    (gSc Ls xs (x4 + 4)).bind fun v115 =>
    if v115 = 0 then
      (f_Mo_mayHave q111.2 v112 v113 v114 0).bind fun q116 =>
      (f_Mo_thrown q116.2).bind fun q117 =>
      if q117 = q111.1 then
        if q111.1 = 0 then
          if (lg_cmp (gGO q116.2) (Int32.toInt64 q116.1)) = 0 then
            some q116.2
          else
            none
        else
          some q116.2
      else
        none
    else
      (f_Mo_mayHave q111.2 v112 v113 v114 1).bind fun q121 =>
      (f_Mo_thrown q121.2).bind fun q122 =>
      if q122 = q111.1 then
        if q111.1 = 0 then
          if (lg_cmp (gGO q121.2) (Int32.toInt64 q121.1)) = 0 then
            some q121.2
          else
            none
        else
          some q121.2
      else
        none
  else
    (f_Law_mayHave M v107 v108 v109 1).bind fun q127 =>
    (gSc Ls xs (x4 + 1)).bind fun v128 =>
    (gSc Ls xs (x4 + 2)).bind fun v129 =>
    (gSc Ls xs (x4 + 3)).bind fun v130 =>
    (gSc Ls xs (x4 + 4)).bind fun v131 =>
    if v131 = 0 then
      (f_Mo_mayHave q127.2 v128 v129 v130 0).bind fun q132 =>
      (f_Mo_thrown q132.2).bind fun q133 =>
      if q133 = q127.1 then
        if q127.1 = 0 then
          if (lg_cmp (gGO q132.2) (Int32.toInt64 q132.1)) = 0 then
            some q132.2
          else
            none
        else
          some q132.2
      else
        none
    else
      (f_Mo_mayHave q127.2 v128 v129 v130 1).bind fun q137 =>
      (f_Mo_thrown q137.2).bind fun q138 =>
      if q138 = q127.1 then
        if q127.1 = 0 then
          if (lg_cmp (gGO q137.2) (Int32.toInt64 q137.1)) = 0 then
            some q137.2
          else
            none
        else
          some q137.2
      else
        none
theorem t_law_c15 {l : Launch} {ε : gEnv} {b : Nat} (hl0 : l.stackTraces = false) (hX : gXw ε) (hM : gMo ε) (hO : gHas ε 20 0 (4, 1, [])) (Ls : Nat) (xs : Nat → Int32) {ka na : Nat} (hc : ka + 1 ≤ 601024) (hs : na + 6 ≤ 7293034) (M : gMem) (x4 : Int32) (r : gMem) (h : f_law_c15 Ls xs M x4 = some r) (kk : gGo l ε k_law room_1 (gFm b Ls xs (ka + 1) (na + 6)) 1384 [(0, .ref b), (1, .ref (ε.2.2.1 18 0)), (2, .ref (ε.2.2.1 19 0)), (3, .ref (ε.2.2.1 20 0)), (4, .int x4)] [] r) : gGo l ε k_law room_1 (gFm b Ls xs ka na) 864 [(0, .ref b), (1, .ref (ε.2.2.1 18 0)), (2, .ref (ε.2.2.1 19 0)), (3, .ref (ε.2.2.1 20 0)), (4, .int x4)] [] M := by
  unfold f_law_c15 at h
  refine g_aload_n d_Law_law_864 rfl 1 rfl ?_
  refine g_aload_n d_Law_law_865 rfl 0 rfl ?_
  refine g_iload d_Law_law_866 4 rfl ?_
  refine g_iconst (v := 1) d_Law_law_868 (by decide) ?_
  refine g_iadd d_Law_law_869 ?_
  obtain ⟨v107, hv107, h⟩ := gOb h
  refine g_sld d_Law_law_870 hv107 ?_
  refine g_aload_n d_Law_law_871 rfl 0 rfl ?_
  refine g_iload d_Law_law_872 4 rfl ?_
  refine g_iconst (v := 2) d_Law_law_874 (by decide) ?_
  refine g_iadd d_Law_law_875 ?_
  obtain ⟨v108, hv108, h⟩ := gOb h
  refine g_sld d_Law_law_876 hv108 ?_
  refine g_aload_n d_Law_law_877 rfl 0 rfl ?_
  refine g_iload d_Law_law_878 4 rfl ?_
  refine g_iconst (v := 3) d_Law_law_880 (by decide) ?_
  refine g_iadd d_Law_law_881 ?_
  obtain ⟨v109, hv109, h⟩ := gOb h
  refine g_sld d_Law_law_882 hv109 ?_
  refine g_aload_n d_Law_law_883 rfl 0 rfl ?_
  refine g_iload d_Law_law_884 4 rfl ?_
  refine g_iconst (v := 4) d_Law_law_886 (by decide) ?_
  refine g_iadd d_Law_law_887 ?_
  obtain ⟨v110, hv110, h⟩ := gOb h
  refine g_sld d_Law_law_888 hv110 ?_
  refine g_if_eq (tgt := 896) d_Law_law_889 (by decide) (fun c143 => ?_) (fun c143 => ?_)
  · rw [if_pos c143] at h
    refine g_iconst (v := 0) d_Law_law_896 (by decide) ?_
    refine g_aload_n d_Law_law_897 rfl 3 rfl ?_
    obtain ⟨q111, hq111, h⟩ := gOb h
    refine g_callLaw (k := 6) (As := [.ref (ε.2.2.1 18 0), .int v107, .int v108, .int v109, .int 0, .ref (ε.2.2.1 20 0)]) (rest := []) (fun hl0 => ctl_Law_mayHave hl0 hX hO M v107 v108 v109 0 _ hq111) d_Law_law_898 cw_Law_mayHave w_33 w_799 w_798 (by decide +kernel) rfl rfl (Nat.le_of_ble_eq_true rfl) ⟨Nat.le_of_ble_eq_true rfl, Nat.le_of_ble_eq_true rfl⟩ hc hs ?_
    refine g_istore (L' := [(5, .int q111.1), (0, .ref b), (1, .ref (ε.2.2.1 18 0)), (2, .ref (ε.2.2.1 19 0)), (3, .ref (ε.2.2.1 20 0)), (4, .int x4)]) d_Law_law_901 (by decide) rfl ?_
    refine g_aload_n d_Law_law_903 rfl 3 rfl ?_
    refine g_aload_n d_Law_law_904 rfl 1 rfl ?_
    refine g_iload d_Law_law_905 5 rfl ?_
    refine g_iconst (v := 1) d_Law_law_907 (by decide) ?_
    refine g_iadd d_Law_law_908 ?_
    obtain ⟨v112, hv112, h⟩ := gOb h
    refine g_sld d_Law_law_909 hv112 ?_
    refine g_aload_n d_Law_law_910 rfl 1 rfl ?_
    refine g_iload d_Law_law_911 5 rfl ?_
    refine g_iconst (v := 2) d_Law_law_913 (by decide) ?_
    refine g_iadd d_Law_law_914 ?_
    obtain ⟨v113, hv113, h⟩ := gOb h
    refine g_sld d_Law_law_915 hv113 ?_
    refine g_aload_n d_Law_law_916 rfl 1 rfl ?_
    refine g_iload d_Law_law_917 5 rfl ?_
    refine g_iconst (v := 3) d_Law_law_919 (by decide) ?_
    refine g_iadd d_Law_law_920 ?_
    obtain ⟨v114, hv114, h⟩ := gOb h
    refine g_sld d_Law_law_921 hv114 ?_
    refine g_aload_n d_Law_law_922 rfl 1 rfl ?_
    refine g_iload d_Law_law_923 5 rfl ?_
    refine g_iconst (v := 4) d_Law_law_925 (by decide) ?_
    refine g_iadd d_Law_law_926 ?_
    obtain ⟨v115, hv115, h⟩ := gOb h
    refine g_sld d_Law_law_927 hv115 ?_
    refine g_if_eq (tgt := 935) d_Law_law_928 (by decide) (fun c126 => ?_) (fun c126 => ?_)
    · rw [if_pos c126] at h
      refine g_iconst (v := 0) d_Law_law_935 (by decide) ?_
      obtain ⟨q116, hq116, h⟩ := gOb h
      refine g_callV_i (As := [.int v112, .int v113, .int v114, .int 0]) (rest := []) (ct_Mo_mayHave hM q111.2 v112 v113 v114 0 _ hq116) d_Law_law_936 ca_Mo_mayHave w_1200 (gMo_h0 hM) rfl rfl rfl (Nat.le_of_ble_eq_true rfl) ⟨Nat.le_of_ble_eq_true rfl, Nat.le_of_ble_eq_true rfl⟩ ?_
      refine g_istore (L' := [(6, .int q116.1), (5, .int q111.1), (0, .ref b), (1, .ref (ε.2.2.1 18 0)), (2, .ref (ε.2.2.1 19 0)), (3, .ref (ε.2.2.1 20 0)), (4, .int x4)]) d_Law_law_939 (by decide) rfl ?_
      refine g_aload_n d_Law_law_941 rfl 4 rfl ?_
      obtain ⟨q117, hq117, h⟩ := gOb h
      refine g_callV_i (As := []) (rest := []) (ct_Mo_thrown hM q116.2 _ hq117) d_Law_law_942 ca_Mo_thrown w_1022 (gMo_h0 hM) rfl rfl rfl (Nat.le_of_ble_eq_true rfl) ⟨Nat.le_of_ble_eq_true rfl, Nat.le_of_ble_eq_true rfl⟩ ?_
      refine g_iload d_Law_law_945 1 rfl ?_
      refine g_icmp_eq (tgt := 952) d_Law_law_947 (by decide) (fun c120 => ?_) (fun c120 => ?_)
      · rw [if_pos c120] at h
        refine g_iload d_Law_law_952 1 rfl ?_
        refine g_if_ne (tgt := 969) d_Law_law_954 (by decide) (fun c119 => ?_) (fun c119 => ?_)
        · rw [if_neg c119] at h
          refine g_goto (tgt := 1384) d_Law_law_969 (by decide) ?_
          refine gGo_sub [2, 3, 4, 5, 6] rfl ?_
          obtain rfl := Option.some.inj h
          exact kk
        · rw [if_pos c119] at h
          refine g_aload_n d_Law_law_957 rfl 5 rfl ?_
          refine g_iconst (v := 0) d_Law_law_958 (by decide) ?_
          refine g_laload d_Law_law_959 hO ?_
          refine g_iload d_Law_law_960 0 rfl ?_
          refine g_i2l d_Law_law_962 ?_
          refine g_lcmp d_Law_law_963 ?_
          refine g_if_eq (tgt := 969) d_Law_law_964 (by decide) (fun c118 => ?_) (fun c118 => ?_)
          · rw [if_pos c118] at h
            refine g_goto (tgt := 1384) d_Law_law_969 (by decide) ?_
            refine gGo_sub [2, 3, 4, 5, 6] rfl ?_
            obtain rfl := Option.some.inj h
            exact kk
          · rw [if_neg c118] at h
            cases h
      · rw [if_neg c120] at h
        cases h
    · rw [if_neg c126] at h
      refine g_iconst (v := 1) d_Law_law_931 (by decide) ?_
      refine g_goto (tgt := 936) d_Law_law_932 (by decide) ?_
      obtain ⟨q121, hq121, h⟩ := gOb h
      refine g_callV_i (As := [.int v112, .int v113, .int v114, .int 1]) (rest := []) (ct_Mo_mayHave hM q111.2 v112 v113 v114 1 _ hq121) d_Law_law_936 ca_Mo_mayHave w_1200 (gMo_h0 hM) rfl rfl rfl (Nat.le_of_ble_eq_true rfl) ⟨Nat.le_of_ble_eq_true rfl, Nat.le_of_ble_eq_true rfl⟩ ?_
      refine g_istore (L' := [(6, .int q121.1), (5, .int q111.1), (0, .ref b), (1, .ref (ε.2.2.1 18 0)), (2, .ref (ε.2.2.1 19 0)), (3, .ref (ε.2.2.1 20 0)), (4, .int x4)]) d_Law_law_939 (by decide) rfl ?_
      refine g_aload_n d_Law_law_941 rfl 4 rfl ?_
      obtain ⟨q122, hq122, h⟩ := gOb h
      refine g_callV_i (As := []) (rest := []) (ct_Mo_thrown hM q121.2 _ hq122) d_Law_law_942 ca_Mo_thrown w_1022 (gMo_h0 hM) rfl rfl rfl (Nat.le_of_ble_eq_true rfl) ⟨Nat.le_of_ble_eq_true rfl, Nat.le_of_ble_eq_true rfl⟩ ?_
      refine g_iload d_Law_law_945 1 rfl ?_
      refine g_icmp_eq (tgt := 952) d_Law_law_947 (by decide) (fun c125 => ?_) (fun c125 => ?_)
      · rw [if_pos c125] at h
        refine g_iload d_Law_law_952 1 rfl ?_
        refine g_if_ne (tgt := 969) d_Law_law_954 (by decide) (fun c124 => ?_) (fun c124 => ?_)
        · rw [if_neg c124] at h
          refine g_goto (tgt := 1384) d_Law_law_969 (by decide) ?_
          refine gGo_sub [2, 3, 4, 5, 6] rfl ?_
          obtain rfl := Option.some.inj h
          exact kk
        · rw [if_pos c124] at h
          refine g_aload_n d_Law_law_957 rfl 5 rfl ?_
          refine g_iconst (v := 0) d_Law_law_958 (by decide) ?_
          refine g_laload d_Law_law_959 hO ?_
          refine g_iload d_Law_law_960 0 rfl ?_
          refine g_i2l d_Law_law_962 ?_
          refine g_lcmp d_Law_law_963 ?_
          refine g_if_eq (tgt := 969) d_Law_law_964 (by decide) (fun c123 => ?_) (fun c123 => ?_)
          · rw [if_pos c123] at h
            refine g_goto (tgt := 1384) d_Law_law_969 (by decide) ?_
            refine gGo_sub [2, 3, 4, 5, 6] rfl ?_
            obtain rfl := Option.some.inj h
            exact kk
          · rw [if_neg c123] at h
            cases h
      · rw [if_neg c125] at h
        cases h
  · rw [if_neg c143] at h
    refine g_iconst (v := 1) d_Law_law_892 (by decide) ?_
    refine g_goto (tgt := 897) d_Law_law_893 (by decide) ?_
    refine g_aload_n d_Law_law_897 rfl 3 rfl ?_
    obtain ⟨q127, hq127, h⟩ := gOb h
    refine g_callLaw (k := 6) (As := [.ref (ε.2.2.1 18 0), .int v107, .int v108, .int v109, .int 1, .ref (ε.2.2.1 20 0)]) (rest := []) (fun hl0 => ctl_Law_mayHave hl0 hX hO M v107 v108 v109 1 _ hq127) d_Law_law_898 cw_Law_mayHave w_33 w_799 w_798 (by decide +kernel) rfl rfl (Nat.le_of_ble_eq_true rfl) ⟨Nat.le_of_ble_eq_true rfl, Nat.le_of_ble_eq_true rfl⟩ hc hs ?_
    refine g_istore (L' := [(5, .int q127.1), (0, .ref b), (1, .ref (ε.2.2.1 18 0)), (2, .ref (ε.2.2.1 19 0)), (3, .ref (ε.2.2.1 20 0)), (4, .int x4)]) d_Law_law_901 (by decide) rfl ?_
    refine g_aload_n d_Law_law_903 rfl 3 rfl ?_
    refine g_aload_n d_Law_law_904 rfl 1 rfl ?_
    refine g_iload d_Law_law_905 5 rfl ?_
    refine g_iconst (v := 1) d_Law_law_907 (by decide) ?_
    refine g_iadd d_Law_law_908 ?_
    obtain ⟨v128, hv128, h⟩ := gOb h
    refine g_sld d_Law_law_909 hv128 ?_
    refine g_aload_n d_Law_law_910 rfl 1 rfl ?_
    refine g_iload d_Law_law_911 5 rfl ?_
    refine g_iconst (v := 2) d_Law_law_913 (by decide) ?_
    refine g_iadd d_Law_law_914 ?_
    obtain ⟨v129, hv129, h⟩ := gOb h
    refine g_sld d_Law_law_915 hv129 ?_
    refine g_aload_n d_Law_law_916 rfl 1 rfl ?_
    refine g_iload d_Law_law_917 5 rfl ?_
    refine g_iconst (v := 3) d_Law_law_919 (by decide) ?_
    refine g_iadd d_Law_law_920 ?_
    obtain ⟨v130, hv130, h⟩ := gOb h
    refine g_sld d_Law_law_921 hv130 ?_
    refine g_aload_n d_Law_law_922 rfl 1 rfl ?_
    refine g_iload d_Law_law_923 5 rfl ?_
    refine g_iconst (v := 4) d_Law_law_925 (by decide) ?_
    refine g_iadd d_Law_law_926 ?_
    obtain ⟨v131, hv131, h⟩ := gOb h
    refine g_sld d_Law_law_927 hv131 ?_
    refine g_if_eq (tgt := 935) d_Law_law_928 (by decide) (fun c142 => ?_) (fun c142 => ?_)
    · rw [if_pos c142] at h
      refine g_iconst (v := 0) d_Law_law_935 (by decide) ?_
      obtain ⟨q132, hq132, h⟩ := gOb h
      refine g_callV_i (As := [.int v128, .int v129, .int v130, .int 0]) (rest := []) (ct_Mo_mayHave hM q127.2 v128 v129 v130 0 _ hq132) d_Law_law_936 ca_Mo_mayHave w_1200 (gMo_h0 hM) rfl rfl rfl (Nat.le_of_ble_eq_true rfl) ⟨Nat.le_of_ble_eq_true rfl, Nat.le_of_ble_eq_true rfl⟩ ?_
      refine g_istore (L' := [(6, .int q132.1), (5, .int q127.1), (0, .ref b), (1, .ref (ε.2.2.1 18 0)), (2, .ref (ε.2.2.1 19 0)), (3, .ref (ε.2.2.1 20 0)), (4, .int x4)]) d_Law_law_939 (by decide) rfl ?_
      refine g_aload_n d_Law_law_941 rfl 4 rfl ?_
      obtain ⟨q133, hq133, h⟩ := gOb h
      refine g_callV_i (As := []) (rest := []) (ct_Mo_thrown hM q132.2 _ hq133) d_Law_law_942 ca_Mo_thrown w_1022 (gMo_h0 hM) rfl rfl rfl (Nat.le_of_ble_eq_true rfl) ⟨Nat.le_of_ble_eq_true rfl, Nat.le_of_ble_eq_true rfl⟩ ?_
      refine g_iload d_Law_law_945 1 rfl ?_
      refine g_icmp_eq (tgt := 952) d_Law_law_947 (by decide) (fun c136 => ?_) (fun c136 => ?_)
      · rw [if_pos c136] at h
        refine g_iload d_Law_law_952 1 rfl ?_
        refine g_if_ne (tgt := 969) d_Law_law_954 (by decide) (fun c135 => ?_) (fun c135 => ?_)
        · rw [if_neg c135] at h
          refine g_goto (tgt := 1384) d_Law_law_969 (by decide) ?_
          refine gGo_sub [2, 3, 4, 5, 6] rfl ?_
          obtain rfl := Option.some.inj h
          exact kk
        · rw [if_pos c135] at h
          refine g_aload_n d_Law_law_957 rfl 5 rfl ?_
          refine g_iconst (v := 0) d_Law_law_958 (by decide) ?_
          refine g_laload d_Law_law_959 hO ?_
          refine g_iload d_Law_law_960 0 rfl ?_
          refine g_i2l d_Law_law_962 ?_
          refine g_lcmp d_Law_law_963 ?_
          refine g_if_eq (tgt := 969) d_Law_law_964 (by decide) (fun c134 => ?_) (fun c134 => ?_)
          · rw [if_pos c134] at h
            refine g_goto (tgt := 1384) d_Law_law_969 (by decide) ?_
            refine gGo_sub [2, 3, 4, 5, 6] rfl ?_
            obtain rfl := Option.some.inj h
            exact kk
          · rw [if_neg c134] at h
            cases h
      · rw [if_neg c136] at h
        cases h
    · rw [if_neg c142] at h
      refine g_iconst (v := 1) d_Law_law_931 (by decide) ?_
      refine g_goto (tgt := 936) d_Law_law_932 (by decide) ?_
      obtain ⟨q137, hq137, h⟩ := gOb h
      refine g_callV_i (As := [.int v128, .int v129, .int v130, .int 1]) (rest := []) (ct_Mo_mayHave hM q127.2 v128 v129 v130 1 _ hq137) d_Law_law_936 ca_Mo_mayHave w_1200 (gMo_h0 hM) rfl rfl rfl (Nat.le_of_ble_eq_true rfl) ⟨Nat.le_of_ble_eq_true rfl, Nat.le_of_ble_eq_true rfl⟩ ?_
      refine g_istore (L' := [(6, .int q137.1), (5, .int q127.1), (0, .ref b), (1, .ref (ε.2.2.1 18 0)), (2, .ref (ε.2.2.1 19 0)), (3, .ref (ε.2.2.1 20 0)), (4, .int x4)]) d_Law_law_939 (by decide) rfl ?_
      refine g_aload_n d_Law_law_941 rfl 4 rfl ?_
      obtain ⟨q138, hq138, h⟩ := gOb h
      refine g_callV_i (As := []) (rest := []) (ct_Mo_thrown hM q137.2 _ hq138) d_Law_law_942 ca_Mo_thrown w_1022 (gMo_h0 hM) rfl rfl rfl (Nat.le_of_ble_eq_true rfl) ⟨Nat.le_of_ble_eq_true rfl, Nat.le_of_ble_eq_true rfl⟩ ?_
      refine g_iload d_Law_law_945 1 rfl ?_
      refine g_icmp_eq (tgt := 952) d_Law_law_947 (by decide) (fun c141 => ?_) (fun c141 => ?_)
      · rw [if_pos c141] at h
        refine g_iload d_Law_law_952 1 rfl ?_
        refine g_if_ne (tgt := 969) d_Law_law_954 (by decide) (fun c140 => ?_) (fun c140 => ?_)
        · rw [if_neg c140] at h
          refine g_goto (tgt := 1384) d_Law_law_969 (by decide) ?_
          refine gGo_sub [2, 3, 4, 5, 6] rfl ?_
          obtain rfl := Option.some.inj h
          exact kk
        · rw [if_pos c140] at h
          refine g_aload_n d_Law_law_957 rfl 5 rfl ?_
          refine g_iconst (v := 0) d_Law_law_958 (by decide) ?_
          refine g_laload d_Law_law_959 hO ?_
          refine g_iload d_Law_law_960 0 rfl ?_
          refine g_i2l d_Law_law_962 ?_
          refine g_lcmp d_Law_law_963 ?_
          refine g_if_eq (tgt := 969) d_Law_law_964 (by decide) (fun c139 => ?_) (fun c139 => ?_)
          · rw [if_pos c139] at h
            refine g_goto (tgt := 1384) d_Law_law_969 (by decide) ?_
            refine gGo_sub [2, 3, 4, 5, 6] rfl ?_
            obtain rfl := Option.some.inj h
            exact kk
          · rw [if_neg c139] at h
            cases h
      · rw [if_neg c141] at h
        cases h
noncomputable def f_law_c16 (Ls : Nat) (xs : Nat → Int32) (M : gMem) (x4 : Int32) : Option gMem :=
  (gSc Ls xs (x4 + 1)).bind fun v144 =>
  (f_Law_most M v144).bind fun q145 =>
  (gSc Ls xs (x4 + 1)).bind fun v146 =>
  (f_Mo_most q145.2 v146).bind fun q147 =>
  (f_Mo_thrown q147.2).bind fun q148 =>
  if q148 = q145.1 then
    if q145.1 = 0 then
      if (lg_cmp (gGO q147.2) (Int32.toInt64 q147.1)) = 0 then
        some q147.2
      else
        none
    else
      some q147.2
  else
    none
theorem t_law_c16 {l : Launch} {ε : gEnv} {b : Nat} (hl0 : l.stackTraces = false) (hX : gXw ε) (hM : gMo ε) (hO : gHas ε 20 0 (4, 1, [])) (Ls : Nat) (xs : Nat → Int32) {ka na : Nat} (hc : ka + 1 ≤ 601024) (hs : na + 6 ≤ 7293034) (M : gMem) (x4 : Int32) (r : gMem) (h : f_law_c16 Ls xs M x4 = some r) (kk : gGo l ε k_law room_1 (gFm b Ls xs (ka + 1) (na + 6)) 1384 [(0, .ref b), (1, .ref (ε.2.2.1 18 0)), (2, .ref (ε.2.2.1 19 0)), (3, .ref (ε.2.2.1 20 0)), (4, .int x4)] [] r) : gGo l ε k_law room_1 (gFm b Ls xs ka na) 972 [(0, .ref b), (1, .ref (ε.2.2.1 18 0)), (2, .ref (ε.2.2.1 19 0)), (3, .ref (ε.2.2.1 20 0)), (4, .int x4)] [] M := by
  unfold f_law_c16 at h
  refine g_aload_n d_Law_law_972 rfl 1 rfl ?_
  refine g_aload_n d_Law_law_973 rfl 0 rfl ?_
  refine g_iload d_Law_law_974 4 rfl ?_
  refine g_iconst (v := 1) d_Law_law_976 (by decide) ?_
  refine g_iadd d_Law_law_977 ?_
  obtain ⟨v144, hv144, h⟩ := gOb h
  refine g_sld d_Law_law_978 hv144 ?_
  refine g_aload_n d_Law_law_979 rfl 3 rfl ?_
  obtain ⟨q145, hq145, h⟩ := gOb h
  refine g_callLaw (k := 3) (As := [.ref (ε.2.2.1 18 0), .int v144, .ref (ε.2.2.1 20 0)]) (rest := []) (fun hl0 => ctl_Law_most hl0 hX hO M v144 _ hq145) d_Law_law_980 cw_Law_most w_33 w_822 w_821 (by decide +kernel) rfl rfl (Nat.le_of_ble_eq_true rfl) ⟨Nat.le_of_ble_eq_true rfl, Nat.le_of_ble_eq_true rfl⟩ hc hs ?_
  refine g_istore (L' := [(5, .int q145.1), (0, .ref b), (1, .ref (ε.2.2.1 18 0)), (2, .ref (ε.2.2.1 19 0)), (3, .ref (ε.2.2.1 20 0)), (4, .int x4)]) d_Law_law_983 (by decide) rfl ?_
  refine g_aload_n d_Law_law_985 rfl 3 rfl ?_
  refine g_aload_n d_Law_law_986 rfl 1 rfl ?_
  refine g_iload d_Law_law_987 5 rfl ?_
  refine g_iconst (v := 1) d_Law_law_989 (by decide) ?_
  refine g_iadd d_Law_law_990 ?_
  obtain ⟨v146, hv146, h⟩ := gOb h
  refine g_sld d_Law_law_991 hv146 ?_
  obtain ⟨q147, hq147, h⟩ := gOb h
  refine g_callV_i (As := [.int v146]) (rest := []) (ct_Mo_most hM q145.2 v146 _ hq147) d_Law_law_992 ca_Mo_most w_1207 (gMo_h0 hM) rfl rfl rfl (Nat.le_of_ble_eq_true rfl) ⟨Nat.le_of_ble_eq_true rfl, Nat.le_of_ble_eq_true rfl⟩ ?_
  refine g_istore (L' := [(6, .int q147.1), (5, .int q145.1), (0, .ref b), (1, .ref (ε.2.2.1 18 0)), (2, .ref (ε.2.2.1 19 0)), (3, .ref (ε.2.2.1 20 0)), (4, .int x4)]) d_Law_law_995 (by decide) rfl ?_
  refine g_aload_n d_Law_law_997 rfl 4 rfl ?_
  obtain ⟨q148, hq148, h⟩ := gOb h
  refine g_callV_i (As := []) (rest := []) (ct_Mo_thrown hM q147.2 _ hq148) d_Law_law_998 ca_Mo_thrown w_1022 (gMo_h0 hM) rfl rfl rfl (Nat.le_of_ble_eq_true rfl) ⟨Nat.le_of_ble_eq_true rfl, Nat.le_of_ble_eq_true rfl⟩ ?_
  refine g_iload d_Law_law_1001 1 rfl ?_
  refine g_icmp_eq (tgt := 1008) d_Law_law_1003 (by decide) (fun c151 => ?_) (fun c151 => ?_)
  · rw [if_pos c151] at h
    refine g_iload d_Law_law_1008 1 rfl ?_
    refine g_if_ne (tgt := 1025) d_Law_law_1010 (by decide) (fun c150 => ?_) (fun c150 => ?_)
    · rw [if_neg c150] at h
      refine g_goto (tgt := 1384) d_Law_law_1025 (by decide) ?_
      refine gGo_sub [2, 3, 4, 5, 6] rfl ?_
      obtain rfl := Option.some.inj h
      exact kk
    · rw [if_pos c150] at h
      refine g_aload_n d_Law_law_1013 rfl 5 rfl ?_
      refine g_iconst (v := 0) d_Law_law_1014 (by decide) ?_
      refine g_laload d_Law_law_1015 hO ?_
      refine g_iload d_Law_law_1016 0 rfl ?_
      refine g_i2l d_Law_law_1018 ?_
      refine g_lcmp d_Law_law_1019 ?_
      refine g_if_eq (tgt := 1025) d_Law_law_1020 (by decide) (fun c149 => ?_) (fun c149 => ?_)
      · rw [if_pos c149] at h
        refine g_goto (tgt := 1384) d_Law_law_1025 (by decide) ?_
        refine gGo_sub [2, 3, 4, 5, 6] rfl ?_
        obtain rfl := Option.some.inj h
        exact kk
      · rw [if_neg c149] at h
        cases h
  · rw [if_neg c151] at h
    cases h
noncomputable def f_law_c17 (Ls : Nat) (xs : Nat → Int32) (M : gMem) (x4 : Int32) : Option gMem :=
  (f_Law_bestCard M).bind fun q152 =>
  (f_Mo_bestCard q152.2).bind fun q153 =>
  (f_Mo_thrown q153.2).bind fun q154 =>
  if q154 = q152.1 then
    if q152.1 = 0 then
      if (lg_cmp (gGO q153.2) (Int32.toInt64 q153.1)) = 0 then
        some q153.2
      else
        none
    else
      some q153.2
  else
    none
theorem t_law_c17 {l : Launch} {ε : gEnv} {b : Nat} (hl0 : l.stackTraces = false) (hX : gXw ε) (hM : gMo ε) (hO : gHas ε 20 0 (4, 1, [])) (Ls : Nat) (xs : Nat → Int32) {ka na : Nat} (hc : ka + 1 ≤ 601024) (hs : na + 6 ≤ 7293034) (M : gMem) (x4 : Int32) (r : gMem) (h : f_law_c17 Ls xs M x4 = some r) (kk : gGo l ε k_law room_1 (gFm b Ls xs (ka + 1) (na + 6)) 1384 [(0, .ref b), (1, .ref (ε.2.2.1 18 0)), (2, .ref (ε.2.2.1 19 0)), (3, .ref (ε.2.2.1 20 0)), (4, .int x4)] [] r) : gGo l ε k_law room_1 (gFm b Ls xs ka na) 1028 [(0, .ref b), (1, .ref (ε.2.2.1 18 0)), (2, .ref (ε.2.2.1 19 0)), (3, .ref (ε.2.2.1 20 0)), (4, .int x4)] [] M := by
  unfold f_law_c17 at h
  refine g_aload_n d_Law_law_1028 rfl 1 rfl ?_
  refine g_aload_n d_Law_law_1029 rfl 3 rfl ?_
  obtain ⟨q152, hq152, h⟩ := gOb h
  refine g_callLaw (k := 2) (As := [.ref (ε.2.2.1 18 0), .ref (ε.2.2.1 20 0)]) (rest := []) (fun hl0 => ctl_Law_bestCard hl0 hX hO M _ hq152) d_Law_law_1030 cw_Law_bestCard w_33 w_878 w_877 (by decide +kernel) rfl rfl (Nat.le_of_ble_eq_true rfl) ⟨Nat.le_of_ble_eq_true rfl, Nat.le_of_ble_eq_true rfl⟩ hc hs ?_
  refine g_istore (L' := [(5, .int q152.1), (0, .ref b), (1, .ref (ε.2.2.1 18 0)), (2, .ref (ε.2.2.1 19 0)), (3, .ref (ε.2.2.1 20 0)), (4, .int x4)]) d_Law_law_1033 (by decide) rfl ?_
  refine g_aload_n d_Law_law_1035 rfl 3 rfl ?_
  obtain ⟨q153, hq153, h⟩ := gOb h
  refine g_callV_i (As := []) (rest := []) (ct_Mo_bestCard hM q152.2 _ hq153) d_Law_law_1036 ca_Mo_bestCard w_1226 (gMo_h0 hM) rfl rfl rfl (Nat.le_of_ble_eq_true rfl) ⟨Nat.le_of_ble_eq_true rfl, Nat.le_of_ble_eq_true rfl⟩ ?_
  refine g_istore (L' := [(6, .int q153.1), (5, .int q152.1), (0, .ref b), (1, .ref (ε.2.2.1 18 0)), (2, .ref (ε.2.2.1 19 0)), (3, .ref (ε.2.2.1 20 0)), (4, .int x4)]) d_Law_law_1039 (by decide) rfl ?_
  refine g_aload_n d_Law_law_1041 rfl 4 rfl ?_
  obtain ⟨q154, hq154, h⟩ := gOb h
  refine g_callV_i (As := []) (rest := []) (ct_Mo_thrown hM q153.2 _ hq154) d_Law_law_1042 ca_Mo_thrown w_1022 (gMo_h0 hM) rfl rfl rfl (Nat.le_of_ble_eq_true rfl) ⟨Nat.le_of_ble_eq_true rfl, Nat.le_of_ble_eq_true rfl⟩ ?_
  refine g_iload d_Law_law_1045 1 rfl ?_
  refine g_icmp_eq (tgt := 1052) d_Law_law_1047 (by decide) (fun c157 => ?_) (fun c157 => ?_)
  · rw [if_pos c157] at h
    refine g_iload d_Law_law_1052 1 rfl ?_
    refine g_if_ne (tgt := 1069) d_Law_law_1054 (by decide) (fun c156 => ?_) (fun c156 => ?_)
    · rw [if_neg c156] at h
      refine g_goto (tgt := 1384) d_Law_law_1069 (by decide) ?_
      refine gGo_sub [2, 3, 4, 5, 6] rfl ?_
      obtain rfl := Option.some.inj h
      exact kk
    · rw [if_pos c156] at h
      refine g_aload_n d_Law_law_1057 rfl 5 rfl ?_
      refine g_iconst (v := 0) d_Law_law_1058 (by decide) ?_
      refine g_laload d_Law_law_1059 hO ?_
      refine g_iload d_Law_law_1060 0 rfl ?_
      refine g_i2l d_Law_law_1062 ?_
      refine g_lcmp d_Law_law_1063 ?_
      refine g_if_eq (tgt := 1069) d_Law_law_1064 (by decide) (fun c155 => ?_) (fun c155 => ?_)
      · rw [if_pos c155] at h
        refine g_goto (tgt := 1384) d_Law_law_1069 (by decide) ?_
        refine gGo_sub [2, 3, 4, 5, 6] rfl ?_
        obtain rfl := Option.some.inj h
        exact kk
      · rw [if_neg c155] at h
        cases h
  · rw [if_neg c157] at h
    cases h
noncomputable def f_law_c18 (Ls : Nat) (xs : Nat → Int32) (M : gMem) (x4 : Int32) : Option gMem :=
  (gSc Ls xs (x4 + 1)).bind fun v158 =>
  (gSc Ls xs (x4 + 2)).bind fun v159 =>
  (gSc Ls xs (x4 + 3)).bind fun v160 =>
  (f_Law_runScript M v158 ((gShl (Int32.toInt64 v159) 32) ||| ((Int32.toInt64 v160) &&& (4294967295)))).bind fun q161 =>
  (gSc Ls xs (x4 + 1)).bind fun v162 =>
  (gSc Ls xs (x4 + 2)).bind fun v163 =>
  (gSc Ls xs (x4 + 3)).bind fun v164 =>
  (f_Mo_runScript q161.2 v162 ((gShl (Int32.toInt64 v163) 32) ||| ((Int32.toInt64 v164) &&& (4294967295)))).bind fun q165 =>
  (f_Mo_thrown q165.2).bind fun q166 =>
  if q166 = q161.1 then
    if q161.1 = 0 then
      if (lg_cmp (gGO q165.2) (Int32.toInt64 q165.1)) = 0 then
        some q165.2
      else
        none
    else
      some q165.2
  else
    none
theorem t_law_c18 {l : Launch} {ε : gEnv} {b : Nat} (hl0 : l.stackTraces = false) (hX : gXw ε) (hM : gMo ε) (hO : gHas ε 20 0 (4, 1, [])) (Ls : Nat) (xs : Nat → Int32) {ka na : Nat} (hc : ka + 1 ≤ 601024) (hs : na + 6 ≤ 7293034) (M : gMem) (x4 : Int32) (r : gMem) (h : f_law_c18 Ls xs M x4 = some r) (kk : gGo l ε k_law room_1 (gFm b Ls xs (ka + 1) (na + 6)) 1384 [(0, .ref b), (1, .ref (ε.2.2.1 18 0)), (2, .ref (ε.2.2.1 19 0)), (3, .ref (ε.2.2.1 20 0)), (4, .int x4)] [] r) : gGo l ε k_law room_1 (gFm b Ls xs ka na) 1072 [(0, .ref b), (1, .ref (ε.2.2.1 18 0)), (2, .ref (ε.2.2.1 19 0)), (3, .ref (ε.2.2.1 20 0)), (4, .int x4)] [] M := by
  unfold f_law_c18 at h
  refine g_aload_n d_Law_law_1072 rfl 1 rfl ?_
  refine g_aload_n d_Law_law_1073 rfl 0 rfl ?_
  refine g_iload d_Law_law_1074 4 rfl ?_
  refine g_iconst (v := 1) d_Law_law_1076 (by decide) ?_
  refine g_iadd d_Law_law_1077 ?_
  obtain ⟨v158, hv158, h⟩ := gOb h
  refine g_sld d_Law_law_1078 hv158 ?_
  refine g_aload_n d_Law_law_1079 rfl 0 rfl ?_
  refine g_iload d_Law_law_1080 4 rfl ?_
  refine g_iconst (v := 2) d_Law_law_1082 (by decide) ?_
  refine g_iadd d_Law_law_1083 ?_
  obtain ⟨v159, hv159, h⟩ := gOb h
  refine g_sld d_Law_law_1084 hv159 ?_
  refine g_i2l d_Law_law_1085 ?_
  refine g_bipush (v := 32) d_Law_law_1086 (by decide) ?_
  refine g_shl d_Law_law_1088 ?_
  refine g_aload_n d_Law_law_1089 rfl 0 rfl ?_
  refine g_iload d_Law_law_1090 4 rfl ?_
  refine g_iconst (v := 3) d_Law_law_1092 (by decide) ?_
  refine g_iadd d_Law_law_1093 ?_
  obtain ⟨v160, hv160, h⟩ := gOb h
  refine g_sld d_Law_law_1094 hv160 ?_
  refine g_i2l d_Law_law_1095 ?_
  refine g_ldc2 d_Law_law_1096 w_1267 ?_
  refine g_land d_Law_law_1099 ?_
  refine g_lor d_Law_law_1100 ?_
  refine g_aload_n d_Law_law_1101 rfl 3 rfl ?_
  obtain ⟨q161, hq161, h⟩ := gOb h
  refine g_callLaw (k := 4) (As := [.ref (ε.2.2.1 18 0), .int v158, .long ((gShl (Int32.toInt64 v159) 32) ||| ((Int32.toInt64 v160) &&& (4294967295))), .ref (ε.2.2.1 20 0)]) (rest := []) (fun hl0 => ctl_Law_runScript hl0 hX hO M v158 ((gShl (Int32.toInt64 v159) 32) ||| ((Int32.toInt64 v160) &&& (4294967295))) _ hq161) d_Law_law_1102 cw_Law_runScript w_33 w_889 w_888 (by decide +kernel) rfl rfl (Nat.le_of_ble_eq_true rfl) ⟨Nat.le_of_ble_eq_true rfl, Nat.le_of_ble_eq_true rfl⟩ hc hs ?_
  refine g_istore (L' := [(5, .int q161.1), (0, .ref b), (1, .ref (ε.2.2.1 18 0)), (2, .ref (ε.2.2.1 19 0)), (3, .ref (ε.2.2.1 20 0)), (4, .int x4)]) d_Law_law_1105 (by decide) rfl ?_
  refine g_aload_n d_Law_law_1107 rfl 3 rfl ?_
  refine g_aload_n d_Law_law_1108 rfl 1 rfl ?_
  refine g_iload d_Law_law_1109 5 rfl ?_
  refine g_iconst (v := 1) d_Law_law_1111 (by decide) ?_
  refine g_iadd d_Law_law_1112 ?_
  obtain ⟨v162, hv162, h⟩ := gOb h
  refine g_sld d_Law_law_1113 hv162 ?_
  refine g_aload_n d_Law_law_1114 rfl 1 rfl ?_
  refine g_iload d_Law_law_1115 5 rfl ?_
  refine g_iconst (v := 2) d_Law_law_1117 (by decide) ?_
  refine g_iadd d_Law_law_1118 ?_
  obtain ⟨v163, hv163, h⟩ := gOb h
  refine g_sld d_Law_law_1119 hv163 ?_
  refine g_i2l d_Law_law_1120 ?_
  refine g_bipush (v := 32) d_Law_law_1121 (by decide) ?_
  refine g_shl d_Law_law_1123 ?_
  refine g_aload_n d_Law_law_1124 rfl 1 rfl ?_
  refine g_iload d_Law_law_1125 5 rfl ?_
  refine g_iconst (v := 3) d_Law_law_1127 (by decide) ?_
  refine g_iadd d_Law_law_1128 ?_
  obtain ⟨v164, hv164, h⟩ := gOb h
  refine g_sld d_Law_law_1129 hv164 ?_
  refine g_i2l d_Law_law_1130 ?_
  refine g_ldc2 d_Law_law_1131 w_1267 ?_
  refine g_land d_Law_law_1134 ?_
  refine g_lor d_Law_law_1135 ?_
  obtain ⟨q165, hq165, h⟩ := gOb h
  refine g_callV_i (As := [.int v162, .long ((gShl (Int32.toInt64 v163) 32) ||| ((Int32.toInt64 v164) &&& (4294967295)))]) (rest := []) (ct_Mo_runScript hM q161.2 v162 ((gShl (Int32.toInt64 v163) 32) ||| ((Int32.toInt64 v164) &&& (4294967295))) _ hq165) d_Law_law_1136 ca_Mo_runScript w_1230 (gMo_h0 hM) rfl rfl rfl (Nat.le_of_ble_eq_true rfl) ⟨Nat.le_of_ble_eq_true rfl, Nat.le_of_ble_eq_true rfl⟩ ?_
  refine g_istore (L' := [(6, .int q165.1), (5, .int q161.1), (0, .ref b), (1, .ref (ε.2.2.1 18 0)), (2, .ref (ε.2.2.1 19 0)), (3, .ref (ε.2.2.1 20 0)), (4, .int x4)]) d_Law_law_1139 (by decide) rfl ?_
  refine g_aload_n d_Law_law_1141 rfl 4 rfl ?_
  obtain ⟨q166, hq166, h⟩ := gOb h
  refine g_callV_i (As := []) (rest := []) (ct_Mo_thrown hM q165.2 _ hq166) d_Law_law_1142 ca_Mo_thrown w_1022 (gMo_h0 hM) rfl rfl rfl (Nat.le_of_ble_eq_true rfl) ⟨Nat.le_of_ble_eq_true rfl, Nat.le_of_ble_eq_true rfl⟩ ?_
  refine g_iload d_Law_law_1145 1 rfl ?_
  refine g_icmp_eq (tgt := 1152) d_Law_law_1147 (by decide) (fun c169 => ?_) (fun c169 => ?_)
  · rw [if_pos c169] at h
    refine g_iload d_Law_law_1152 1 rfl ?_
    refine g_if_ne (tgt := 1169) d_Law_law_1154 (by decide) (fun c168 => ?_) (fun c168 => ?_)
    · rw [if_neg c168] at h
      refine g_goto (tgt := 1384) d_Law_law_1169 (by decide) ?_
      refine gGo_sub [2, 3, 4, 5, 6] rfl ?_
      obtain rfl := Option.some.inj h
      exact kk
    · rw [if_pos c168] at h
      refine g_aload_n d_Law_law_1157 rfl 5 rfl ?_
      refine g_iconst (v := 0) d_Law_law_1158 (by decide) ?_
      refine g_laload d_Law_law_1159 hO ?_
      refine g_iload d_Law_law_1160 0 rfl ?_
      refine g_i2l d_Law_law_1162 ?_
      refine g_lcmp d_Law_law_1163 ?_
      refine g_if_eq (tgt := 1169) d_Law_law_1164 (by decide) (fun c167 => ?_) (fun c167 => ?_)
      · rw [if_pos c167] at h
        refine g_goto (tgt := 1384) d_Law_law_1169 (by decide) ?_
        refine gGo_sub [2, 3, 4, 5, 6] rfl ?_
        obtain rfl := Option.some.inj h
        exact kk
      · rw [if_neg c167] at h
        cases h
  · rw [if_neg c169] at h
    cases h
noncomputable def f_law_c19 (Ls : Nat) (xs : Nat → Int32) (M : gMem) (x4 : Int32) : Option gMem :=
  (gSc Ls xs (x4 + 1)).bind fun v170 =>
  (gSc Ls xs (x4 + 2)).bind fun v171 =>
  (gSc Ls xs (x4 + 3)).bind fun v172 =>
  (f_Law_simulate M ((gShl (Int32.toInt64 v170) 32) ||| ((Int32.toInt64 v171) &&& (4294967295))) v172).bind fun q173 =>
  (gSc Ls xs (x4 + 1)).bind fun v174 =>
  (gSc Ls xs (x4 + 2)).bind fun v175 =>
  (gSc Ls xs (x4 + 3)).bind fun v176 =>
  (f_Mo_simulate q173.2 ((gShl (Int32.toInt64 v174) 32) ||| ((Int32.toInt64 v175) &&& (4294967295))) v176).bind fun q177 =>
  (f_Mo_thrown q177.2).bind fun q178 =>
  if q178 = q173.1 then
    if q173.1 = 0 then
      if (lg_cmp (gGO q177.2) (Int32.toInt64 q177.1)) = 0 then
        some q177.2
      else
        none
    else
      some q177.2
  else
    none
theorem t_law_c19 {l : Launch} {ε : gEnv} {b : Nat} (hl0 : l.stackTraces = false) (hX : gXw ε) (hM : gMo ε) (hO : gHas ε 20 0 (4, 1, [])) (Ls : Nat) (xs : Nat → Int32) {ka na : Nat} (hc : ka + 1 ≤ 601024) (hs : na + 6 ≤ 7293034) (M : gMem) (x4 : Int32) (r : gMem) (h : f_law_c19 Ls xs M x4 = some r) (kk : gGo l ε k_law room_1 (gFm b Ls xs (ka + 1) (na + 6)) 1384 [(0, .ref b), (1, .ref (ε.2.2.1 18 0)), (2, .ref (ε.2.2.1 19 0)), (3, .ref (ε.2.2.1 20 0)), (4, .int x4)] [] r) : gGo l ε k_law room_1 (gFm b Ls xs ka na) 1172 [(0, .ref b), (1, .ref (ε.2.2.1 18 0)), (2, .ref (ε.2.2.1 19 0)), (3, .ref (ε.2.2.1 20 0)), (4, .int x4)] [] M := by
  unfold f_law_c19 at h
  refine g_aload_n d_Law_law_1172 rfl 1 rfl ?_
  refine g_aload_n d_Law_law_1173 rfl 0 rfl ?_
  refine g_iload d_Law_law_1174 4 rfl ?_
  refine g_iconst (v := 1) d_Law_law_1176 (by decide) ?_
  refine g_iadd d_Law_law_1177 ?_
  obtain ⟨v170, hv170, h⟩ := gOb h
  refine g_sld d_Law_law_1178 hv170 ?_
  refine g_i2l d_Law_law_1179 ?_
  refine g_bipush (v := 32) d_Law_law_1180 (by decide) ?_
  refine g_shl d_Law_law_1182 ?_
  refine g_aload_n d_Law_law_1183 rfl 0 rfl ?_
  refine g_iload d_Law_law_1184 4 rfl ?_
  refine g_iconst (v := 2) d_Law_law_1186 (by decide) ?_
  refine g_iadd d_Law_law_1187 ?_
  obtain ⟨v171, hv171, h⟩ := gOb h
  refine g_sld d_Law_law_1188 hv171 ?_
  refine g_i2l d_Law_law_1189 ?_
  refine g_ldc2 d_Law_law_1190 w_1267 ?_
  refine g_land d_Law_law_1193 ?_
  refine g_lor d_Law_law_1194 ?_
  refine g_aload_n d_Law_law_1195 rfl 0 rfl ?_
  refine g_iload d_Law_law_1196 4 rfl ?_
  refine g_iconst (v := 3) d_Law_law_1198 (by decide) ?_
  refine g_iadd d_Law_law_1199 ?_
  obtain ⟨v172, hv172, h⟩ := gOb h
  refine g_sld d_Law_law_1200 hv172 ?_
  refine g_aload_n d_Law_law_1201 rfl 3 rfl ?_
  obtain ⟨q173, hq173, h⟩ := gOb h
  refine g_callLaw (k := 4) (As := [.ref (ε.2.2.1 18 0), .long ((gShl (Int32.toInt64 v170) 32) ||| ((Int32.toInt64 v171) &&& (4294967295))), .int v172, .ref (ε.2.2.1 20 0)]) (rest := []) (fun hl0 => ctl_Law_simulate hl0 hX hO M ((gShl (Int32.toInt64 v170) 32) ||| ((Int32.toInt64 v171) &&& (4294967295))) v172 _ hq173) d_Law_law_1202 cw_Law_simulate w_33 w_916 w_915 (by decide +kernel) rfl rfl (Nat.le_of_ble_eq_true rfl) ⟨Nat.le_of_ble_eq_true rfl, Nat.le_of_ble_eq_true rfl⟩ hc hs ?_
  refine g_istore (L' := [(5, .int q173.1), (0, .ref b), (1, .ref (ε.2.2.1 18 0)), (2, .ref (ε.2.2.1 19 0)), (3, .ref (ε.2.2.1 20 0)), (4, .int x4)]) d_Law_law_1205 (by decide) rfl ?_
  refine g_aload_n d_Law_law_1207 rfl 3 rfl ?_
  refine g_aload_n d_Law_law_1208 rfl 1 rfl ?_
  refine g_iload d_Law_law_1209 5 rfl ?_
  refine g_iconst (v := 1) d_Law_law_1211 (by decide) ?_
  refine g_iadd d_Law_law_1212 ?_
  obtain ⟨v174, hv174, h⟩ := gOb h
  refine g_sld d_Law_law_1213 hv174 ?_
  refine g_i2l d_Law_law_1214 ?_
  refine g_bipush (v := 32) d_Law_law_1215 (by decide) ?_
  refine g_shl d_Law_law_1217 ?_
  refine g_aload_n d_Law_law_1218 rfl 1 rfl ?_
  refine g_iload d_Law_law_1219 5 rfl ?_
  refine g_iconst (v := 2) d_Law_law_1221 (by decide) ?_
  refine g_iadd d_Law_law_1222 ?_
  obtain ⟨v175, hv175, h⟩ := gOb h
  refine g_sld d_Law_law_1223 hv175 ?_
  refine g_i2l d_Law_law_1224 ?_
  refine g_ldc2 d_Law_law_1225 w_1267 ?_
  refine g_land d_Law_law_1228 ?_
  refine g_lor d_Law_law_1229 ?_
  refine g_aload_n d_Law_law_1230 rfl 1 rfl ?_
  refine g_iload d_Law_law_1231 5 rfl ?_
  refine g_iconst (v := 3) d_Law_law_1233 (by decide) ?_
  refine g_iadd d_Law_law_1234 ?_
  obtain ⟨v176, hv176, h⟩ := gOb h
  refine g_sld d_Law_law_1235 hv176 ?_
  obtain ⟨q177, hq177, h⟩ := gOb h
  refine g_callV_i (As := [.long ((gShl (Int32.toInt64 v174) 32) ||| ((Int32.toInt64 v175) &&& (4294967295))), .int v176]) (rest := []) (ct_Mo_simulate hM q173.2 ((gShl (Int32.toInt64 v174) 32) ||| ((Int32.toInt64 v175) &&& (4294967295))) v176 _ hq177) d_Law_law_1236 ca_Mo_simulate w_1247 (gMo_h0 hM) rfl rfl rfl (Nat.le_of_ble_eq_true rfl) ⟨Nat.le_of_ble_eq_true rfl, Nat.le_of_ble_eq_true rfl⟩ ?_
  refine g_istore (L' := [(6, .int q177.1), (5, .int q173.1), (0, .ref b), (1, .ref (ε.2.2.1 18 0)), (2, .ref (ε.2.2.1 19 0)), (3, .ref (ε.2.2.1 20 0)), (4, .int x4)]) d_Law_law_1239 (by decide) rfl ?_
  refine g_aload_n d_Law_law_1241 rfl 4 rfl ?_
  obtain ⟨q178, hq178, h⟩ := gOb h
  refine g_callV_i (As := []) (rest := []) (ct_Mo_thrown hM q177.2 _ hq178) d_Law_law_1242 ca_Mo_thrown w_1022 (gMo_h0 hM) rfl rfl rfl (Nat.le_of_ble_eq_true rfl) ⟨Nat.le_of_ble_eq_true rfl, Nat.le_of_ble_eq_true rfl⟩ ?_
  refine g_iload d_Law_law_1245 1 rfl ?_
  refine g_icmp_eq (tgt := 1252) d_Law_law_1247 (by decide) (fun c181 => ?_) (fun c181 => ?_)
  · rw [if_pos c181] at h
    refine g_iload d_Law_law_1252 1 rfl ?_
    refine g_if_ne (tgt := 1269) d_Law_law_1254 (by decide) (fun c180 => ?_) (fun c180 => ?_)
    · rw [if_neg c180] at h
      refine g_goto (tgt := 1384) d_Law_law_1269 (by decide) ?_
      refine gGo_sub [2, 3, 4, 5, 6] rfl ?_
      obtain rfl := Option.some.inj h
      exact kk
    · rw [if_pos c180] at h
      refine g_aload_n d_Law_law_1257 rfl 5 rfl ?_
      refine g_iconst (v := 0) d_Law_law_1258 (by decide) ?_
      refine g_laload d_Law_law_1259 hO ?_
      refine g_iload d_Law_law_1260 0 rfl ?_
      refine g_i2l d_Law_law_1262 ?_
      refine g_lcmp d_Law_law_1263 ?_
      refine g_if_eq (tgt := 1269) d_Law_law_1264 (by decide) (fun c179 => ?_) (fun c179 => ?_)
      · rw [if_pos c179] at h
        refine g_goto (tgt := 1384) d_Law_law_1269 (by decide) ?_
        refine gGo_sub [2, 3, 4, 5, 6] rfl ?_
        obtain rfl := Option.some.inj h
        exact kk
      · rw [if_neg c179] at h
        cases h
  · rw [if_neg c181] at h
    cases h
noncomputable def f_law_c20 (Ls : Nat) (xs : Nat → Int32) (M : gMem) (x4 : Int32) : Option gMem :=
  (gSc Ls xs (x4 + 1)).bind fun v182 =>
  (f_Law_save M v182).bind fun q183 =>
  (gSc Ls xs (x4 + 1)).bind fun v184 =>
  (f_Mo_save q183.2 v184).bind fun q185 =>
  (f_Mo_thrown q185.2).bind fun q186 =>
  if q186 = q183.1 then
    if q183.1 = 0 then
      if (lg_cmp (gGO q185.2) (Int32.toInt64 q185.1)) = 0 then
        some q185.2
      else
        none
    else
      some q185.2
  else
    none
theorem t_law_c20 {l : Launch} {ε : gEnv} {b : Nat} (hl0 : l.stackTraces = false) (hX : gXw ε) (hM : gMo ε) (hO : gHas ε 20 0 (4, 1, [])) (Ls : Nat) (xs : Nat → Int32) {ka na : Nat} (hc : ka + 1 ≤ 601024) (hs : na + 6 ≤ 7293034) (M : gMem) (x4 : Int32) (r : gMem) (h : f_law_c20 Ls xs M x4 = some r) (kk : gGo l ε k_law room_1 (gFm b Ls xs (ka + 1) (na + 6)) 1384 [(0, .ref b), (1, .ref (ε.2.2.1 18 0)), (2, .ref (ε.2.2.1 19 0)), (3, .ref (ε.2.2.1 20 0)), (4, .int x4)] [] r) : gGo l ε k_law room_1 (gFm b Ls xs ka na) 1272 [(0, .ref b), (1, .ref (ε.2.2.1 18 0)), (2, .ref (ε.2.2.1 19 0)), (3, .ref (ε.2.2.1 20 0)), (4, .int x4)] [] M := by
  unfold f_law_c20 at h
  refine g_aload_n d_Law_law_1272 rfl 1 rfl ?_
  refine g_aload_n d_Law_law_1273 rfl 0 rfl ?_
  refine g_iload d_Law_law_1274 4 rfl ?_
  refine g_iconst (v := 1) d_Law_law_1276 (by decide) ?_
  refine g_iadd d_Law_law_1277 ?_
  obtain ⟨v182, hv182, h⟩ := gOb h
  refine g_sld d_Law_law_1278 hv182 ?_
  refine g_aload_n d_Law_law_1279 rfl 3 rfl ?_
  obtain ⟨q183, hq183, h⟩ := gOb h
  refine g_callLaw (k := 3) (As := [.ref (ε.2.2.1 18 0), .int v182, .ref (ε.2.2.1 20 0)]) (rest := []) (fun hl0 => ctl_Law_save hl0 hX hO M v182 _ hq183) d_Law_law_1280 cw_Law_save w_33 w_934 w_933 (by decide +kernel) rfl rfl (Nat.le_of_ble_eq_true rfl) ⟨Nat.le_of_ble_eq_true rfl, Nat.le_of_ble_eq_true rfl⟩ hc hs ?_
  refine g_istore (L' := [(5, .int q183.1), (0, .ref b), (1, .ref (ε.2.2.1 18 0)), (2, .ref (ε.2.2.1 19 0)), (3, .ref (ε.2.2.1 20 0)), (4, .int x4)]) d_Law_law_1283 (by decide) rfl ?_
  refine g_aload_n d_Law_law_1285 rfl 3 rfl ?_
  refine g_aload_n d_Law_law_1286 rfl 1 rfl ?_
  refine g_iload d_Law_law_1287 5 rfl ?_
  refine g_iconst (v := 1) d_Law_law_1289 (by decide) ?_
  refine g_iadd d_Law_law_1290 ?_
  obtain ⟨v184, hv184, h⟩ := gOb h
  refine g_sld d_Law_law_1291 hv184 ?_
  obtain ⟨q185, hq185, h⟩ := gOb h
  refine g_callV_i (As := [.int v184]) (rest := []) (ct_Mo_save hM q183.2 v184 _ hq185) d_Law_law_1292 ca_Mo_save w_1259 (gMo_h0 hM) rfl rfl rfl (Nat.le_of_ble_eq_true rfl) ⟨Nat.le_of_ble_eq_true rfl, Nat.le_of_ble_eq_true rfl⟩ ?_
  refine g_istore (L' := [(6, .int q185.1), (5, .int q183.1), (0, .ref b), (1, .ref (ε.2.2.1 18 0)), (2, .ref (ε.2.2.1 19 0)), (3, .ref (ε.2.2.1 20 0)), (4, .int x4)]) d_Law_law_1295 (by decide) rfl ?_
  refine g_aload_n d_Law_law_1297 rfl 4 rfl ?_
  obtain ⟨q186, hq186, h⟩ := gOb h
  refine g_callV_i (As := []) (rest := []) (ct_Mo_thrown hM q185.2 _ hq186) d_Law_law_1298 ca_Mo_thrown w_1022 (gMo_h0 hM) rfl rfl rfl (Nat.le_of_ble_eq_true rfl) ⟨Nat.le_of_ble_eq_true rfl, Nat.le_of_ble_eq_true rfl⟩ ?_
  refine g_iload d_Law_law_1301 1 rfl ?_
  refine g_icmp_eq (tgt := 1308) d_Law_law_1303 (by decide) (fun c189 => ?_) (fun c189 => ?_)
  · rw [if_pos c189] at h
    refine g_iload d_Law_law_1308 1 rfl ?_
    refine g_if_ne (tgt := 1325) d_Law_law_1310 (by decide) (fun c188 => ?_) (fun c188 => ?_)
    · rw [if_neg c188] at h
      refine g_goto (tgt := 1384) d_Law_law_1325 (by decide) ?_
      refine gGo_sub [2, 3, 4, 5, 6] rfl ?_
      obtain rfl := Option.some.inj h
      exact kk
    · rw [if_pos c188] at h
      refine g_aload_n d_Law_law_1313 rfl 5 rfl ?_
      refine g_iconst (v := 0) d_Law_law_1314 (by decide) ?_
      refine g_laload d_Law_law_1315 hO ?_
      refine g_iload d_Law_law_1316 0 rfl ?_
      refine g_i2l d_Law_law_1318 ?_
      refine g_lcmp d_Law_law_1319 ?_
      refine g_if_eq (tgt := 1325) d_Law_law_1320 (by decide) (fun c187 => ?_) (fun c187 => ?_)
      · rw [if_pos c187] at h
        refine g_goto (tgt := 1384) d_Law_law_1325 (by decide) ?_
        refine gGo_sub [2, 3, 4, 5, 6] rfl ?_
        obtain rfl := Option.some.inj h
        exact kk
      · rw [if_neg c187] at h
        cases h
  · rw [if_neg c189] at h
    cases h
noncomputable def f_law_c21 (Ls : Nat) (xs : Nat → Int32) (M : gMem) (x4 : Int32) : Option gMem :=
  (gSc Ls xs (x4 + 1)).bind fun v190 =>
  (f_Law_restore M v190).bind fun q191 =>
  (gSc Ls xs (x4 + 1)).bind fun v192 =>
  (f_Mo_restore q191.2 v192).bind fun q193 =>
  (f_Mo_thrown q193.2).bind fun q194 =>
  if q194 = q191.1 then
    if q191.1 = 0 then
      if (lg_cmp (gGO q193.2) (Int32.toInt64 q193.1)) = 0 then
        some q193.2
      else
        none
    else
      some q193.2
  else
    none
theorem t_law_c21 {l : Launch} {ε : gEnv} {b : Nat} (hl0 : l.stackTraces = false) (hX : gXw ε) (hM : gMo ε) (hO : gHas ε 20 0 (4, 1, [])) (Ls : Nat) (xs : Nat → Int32) {ka na : Nat} (hc : ka + 1 ≤ 601024) (hs : na + 6 ≤ 7293034) (M : gMem) (x4 : Int32) (r : gMem) (h : f_law_c21 Ls xs M x4 = some r) (kk : gGo l ε k_law room_1 (gFm b Ls xs (ka + 1) (na + 6)) 1384 [(0, .ref b), (1, .ref (ε.2.2.1 18 0)), (2, .ref (ε.2.2.1 19 0)), (3, .ref (ε.2.2.1 20 0)), (4, .int x4)] [] r) : gGo l ε k_law room_1 (gFm b Ls xs ka na) 1328 [(0, .ref b), (1, .ref (ε.2.2.1 18 0)), (2, .ref (ε.2.2.1 19 0)), (3, .ref (ε.2.2.1 20 0)), (4, .int x4)] [] M := by
  unfold f_law_c21 at h
  refine g_aload_n d_Law_law_1328 rfl 1 rfl ?_
  refine g_aload_n d_Law_law_1329 rfl 0 rfl ?_
  refine g_iload d_Law_law_1330 4 rfl ?_
  refine g_iconst (v := 1) d_Law_law_1332 (by decide) ?_
  refine g_iadd d_Law_law_1333 ?_
  obtain ⟨v190, hv190, h⟩ := gOb h
  refine g_sld d_Law_law_1334 hv190 ?_
  refine g_aload_n d_Law_law_1335 rfl 3 rfl ?_
  obtain ⟨q191, hq191, h⟩ := gOb h
  refine g_callLaw (k := 3) (As := [.ref (ε.2.2.1 18 0), .int v190, .ref (ε.2.2.1 20 0)]) (rest := []) (fun hl0 => ctl_Law_restore hl0 hX hO M v190 _ hq191) d_Law_law_1336 cw_Law_restore w_33 w_946 w_945 (by decide +kernel) rfl rfl (Nat.le_of_ble_eq_true rfl) ⟨Nat.le_of_ble_eq_true rfl, Nat.le_of_ble_eq_true rfl⟩ hc hs ?_
  refine g_istore (L' := [(5, .int q191.1), (0, .ref b), (1, .ref (ε.2.2.1 18 0)), (2, .ref (ε.2.2.1 19 0)), (3, .ref (ε.2.2.1 20 0)), (4, .int x4)]) d_Law_law_1339 (by decide) rfl ?_
  refine g_aload_n d_Law_law_1341 rfl 3 rfl ?_
  refine g_aload_n d_Law_law_1342 rfl 1 rfl ?_
  refine g_iload d_Law_law_1343 5 rfl ?_
  refine g_iconst (v := 1) d_Law_law_1345 (by decide) ?_
  refine g_iadd d_Law_law_1346 ?_
  obtain ⟨v192, hv192, h⟩ := gOb h
  refine g_sld d_Law_law_1347 hv192 ?_
  obtain ⟨q193, hq193, h⟩ := gOb h
  refine g_callV_i (As := [.int v192]) (rest := []) (ct_Mo_restore hM q191.2 v192 _ hq193) d_Law_law_1348 ca_Mo_restore w_1263 (gMo_h0 hM) rfl rfl rfl (Nat.le_of_ble_eq_true rfl) ⟨Nat.le_of_ble_eq_true rfl, Nat.le_of_ble_eq_true rfl⟩ ?_
  refine g_istore (L' := [(6, .int q193.1), (5, .int q191.1), (0, .ref b), (1, .ref (ε.2.2.1 18 0)), (2, .ref (ε.2.2.1 19 0)), (3, .ref (ε.2.2.1 20 0)), (4, .int x4)]) d_Law_law_1351 (by decide) rfl ?_
  refine g_aload_n d_Law_law_1353 rfl 4 rfl ?_
  obtain ⟨q194, hq194, h⟩ := gOb h
  refine g_callV_i (As := []) (rest := []) (ct_Mo_thrown hM q193.2 _ hq194) d_Law_law_1354 ca_Mo_thrown w_1022 (gMo_h0 hM) rfl rfl rfl (Nat.le_of_ble_eq_true rfl) ⟨Nat.le_of_ble_eq_true rfl, Nat.le_of_ble_eq_true rfl⟩ ?_
  refine g_iload d_Law_law_1357 1 rfl ?_
  refine g_icmp_eq (tgt := 1364) d_Law_law_1359 (by decide) (fun c197 => ?_) (fun c197 => ?_)
  · rw [if_pos c197] at h
    refine g_iload d_Law_law_1364 1 rfl ?_
    refine g_if_ne (tgt := 1381) d_Law_law_1366 (by decide) (fun c196 => ?_) (fun c196 => ?_)
    · rw [if_neg c196] at h
      refine g_goto (tgt := 1384) d_Law_law_1381 (by decide) ?_
      refine gGo_sub [2, 3, 4, 5, 6] rfl ?_
      obtain rfl := Option.some.inj h
      exact kk
    · rw [if_pos c196] at h
      refine g_aload_n d_Law_law_1369 rfl 5 rfl ?_
      refine g_iconst (v := 0) d_Law_law_1370 (by decide) ?_
      refine g_laload d_Law_law_1371 hO ?_
      refine g_iload d_Law_law_1372 0 rfl ?_
      refine g_i2l d_Law_law_1374 ?_
      refine g_lcmp d_Law_law_1375 ?_
      refine g_if_eq (tgt := 1381) d_Law_law_1376 (by decide) (fun c195 => ?_) (fun c195 => ?_)
      · rw [if_pos c195] at h
        refine g_goto (tgt := 1384) d_Law_law_1381 (by decide) ?_
        refine gGo_sub [2, 3, 4, 5, 6] rfl ?_
        obtain rfl := Option.some.inj h
        exact kk
      · rw [if_neg c195] at h
        cases h
  · rw [if_neg c197] at h
    cases h
noncomputable def f_law_step (Ls : Nat) (xs : Nat → Int32) (M : gMem) (x4 : Int32) : Option gMem :=
  (gSc Ls xs x4).bind fun w0 =>
  if (w0 &&& 31) = 0 then f_law_c0 Ls xs M x4 else
  if (w0 &&& 31) = 1 then f_law_c1 Ls xs M x4 else
  if (w0 &&& 31) = 2 then f_law_c2 Ls xs M x4 else
  if (w0 &&& 31) = 3 then f_law_c3 Ls xs M x4 else
  if (w0 &&& 31) = 4 then f_law_c4 Ls xs M x4 else
  if (w0 &&& 31) = 5 then f_law_c5 Ls xs M x4 else
  if (w0 &&& 31) = 6 then f_law_c6 Ls xs M x4 else
  if (w0 &&& 31) = 7 then f_law_c7 Ls xs M x4 else
  if (w0 &&& 31) = 8 then f_law_c8 Ls xs M x4 else
  if (w0 &&& 31) = 9 then f_law_c9 Ls xs M x4 else
  if (w0 &&& 31) = 10 then f_law_c10 Ls xs M x4 else
  if (w0 &&& 31) = 11 then f_law_c11 Ls xs M x4 else
  if (w0 &&& 31) = 12 then f_law_c12 Ls xs M x4 else
  if (w0 &&& 31) = 13 then f_law_c13 Ls xs M x4 else
  if (w0 &&& 31) = 14 then f_law_c14 Ls xs M x4 else
  if (w0 &&& 31) = 15 then f_law_c15 Ls xs M x4 else
  if (w0 &&& 31) = 16 then f_law_c16 Ls xs M x4 else
  if (w0 &&& 31) = 17 then f_law_c17 Ls xs M x4 else
  if (w0 &&& 31) = 18 then f_law_c18 Ls xs M x4 else
  if (w0 &&& 31) = 19 then f_law_c19 Ls xs M x4 else
  if (w0 &&& 31) = 20 then f_law_c20 Ls xs M x4 else
  if (w0 &&& 31) = 21 then f_law_c21 Ls xs M x4 else
  some M
theorem t_law_step {l : Launch} {ε : gEnv} {b : Nat} (hl0 : l.stackTraces = false) (hX : gXw ε) (hM : gMo ε) (hO : gHas ε 20 0 (4, 1, [])) (Ls : Nat) (xs : Nat → Int32) {ka na : Nat} (hc : ka + 1 ≤ 601024) (hs : na + 6 ≤ 7293034) (M : gMem) (x4 : Int32) (r : gMem) (hgo : ¬ Int32.ofNat Ls - 5 < x4) (h : f_law_step Ls xs M x4 = some r) (kk : gGo l ε k_law room_1 (gFm b Ls xs (ka + 1) (na + 6)) 1384 [(0, .ref b), (1, .ref (ε.2.2.1 18 0)), (2, .ref (ε.2.2.1 19 0)), (3, .ref (ε.2.2.1 20 0)), (4, .int x4)] [] r) : gGo l ε k_law room_1 (gFm b Ls xs ka na) 23 [(0, .ref b), (1, .ref (ε.2.2.1 18 0)), (2, .ref (ε.2.2.1 19 0)), (3, .ref (ε.2.2.1 20 0)), (4, .int x4)] [] M := by
  unfold f_law_step at h
  refine g_iload d_Law_law_23 4 rfl ?_
  refine g_aload_n d_Law_law_25 rfl 0 rfl ?_
  refine g_slen d_Law_law_26 ?_
  refine g_iconst (v := 5) d_Law_law_27 (by decide) ?_
  refine g_isub d_Law_law_28 ?_
  refine g_icmp_gt (tgt := 1390) d_Law_law_29 (by decide) (fun c => absurd c hgo) (fun c => ?_)
  refine g_aload_n d_Law_law_32 rfl 0 rfl ?_
  refine g_iload d_Law_law_33 4 rfl ?_
  obtain ⟨w0, hw0, h⟩ := gOb h
  refine g_sld d_Law_law_35 hw0 ?_
  refine g_bipush (v := 31) d_Law_law_36 (by decide) ?_
  refine g_iand d_Law_law_38 ?_
  by_cases c0 : (w0 &&& 31) = 0
  · rw [if_pos c0] at h
    refine g_tabIn (off := 101) (tgt := 140) d_Law_law_39 (by rw [c0]; decide) (by rw [c0]; decide) (by rw [c0]; rfl) (by decide) ?_
    exact t_law_c0 hl0 hX hM hO Ls xs hc hs M x4 r h kk
  rw [if_neg c0] at h
  by_cases c1 : (w0 &&& 31) = 1
  · rw [if_pos c1] at h
    refine g_tabIn (off := 157) (tgt := 196) d_Law_law_39 (by rw [c1]; decide) (by rw [c1]; decide) (by rw [c1]; rfl) (by decide) ?_
    exact t_law_c1 hl0 hX hM hO Ls xs hc hs M x4 r h kk
  rw [if_neg c1] at h
  by_cases c2 : (w0 &&& 31) = 2
  · rw [if_pos c2] at h
    refine g_tabIn (off := 170) (tgt := 209) d_Law_law_39 (by rw [c2]; decide) (by rw [c2]; decide) (by rw [c2]; rfl) (by decide) ?_
    exact t_law_c2 hl0 hX hM hO Ls xs hc hs M x4 r h kk
  rw [if_neg c2] at h
  by_cases c3 : (w0 &&& 31) = 3
  · rw [if_pos c3] at h
    refine g_tabIn (off := 183) (tgt := 222) d_Law_law_39 (by rw [c3]; decide) (by rw [c3]; decide) (by rw [c3]; rfl) (by decide) ?_
    exact t_law_c3 hl0 hX hM hO Ls xs hc hs M x4 r h kk
  rw [if_neg c3] at h
  by_cases c4 : (w0 &&& 31) = 4
  · rw [if_pos c4] at h
    refine g_tabIn (off := 227) (tgt := 266) d_Law_law_39 (by rw [c4]; decide) (by rw [c4]; decide) (by rw [c4]; rfl) (by decide) ?_
    exact t_law_c4 hl0 hX hM hO Ls xs hc hs M x4 r h kk
  rw [if_neg c4] at h
  by_cases c5 : (w0 &&& 31) = 5
  · rw [if_pos c5] at h
    refine g_tabIn (off := 283) (tgt := 322) d_Law_law_39 (by rw [c5]; decide) (by rw [c5]; decide) (by rw [c5]; rfl) (by decide) ?_
    exact t_law_c5 hl0 hX hM hO Ls xs hc hs M x4 r h kk
  rw [if_neg c5] at h
  by_cases c6 : (w0 &&& 31) = 6
  · rw [if_pos c6] at h
    refine g_tabIn (off := 351) (tgt := 390) d_Law_law_39 (by rw [c6]; decide) (by rw [c6]; decide) (by rw [c6]; rfl) (by decide) ?_
    exact t_law_c6 hl0 hX hM hO Ls xs hc hs M x4 r h kk
  rw [if_neg c6] at h
  by_cases c7 : (w0 &&& 31) = 7
  · rw [if_pos c7] at h
    refine g_tabIn (off := 431) (tgt := 470) d_Law_law_39 (by rw [c7]; decide) (by rw [c7]; decide) (by rw [c7]; rfl) (by decide) ?_
    exact t_law_c7 hl0 hX hM hO Ls xs hc hs M x4 r h kk
  rw [if_neg c7] at h
  by_cases c8 : (w0 &&& 31) = 8
  · rw [if_pos c8] at h
    refine g_tabIn (off := 487) (tgt := 526) d_Law_law_39 (by rw [c8]; decide) (by rw [c8]; decide) (by rw [c8]; rfl) (by decide) ?_
    exact t_law_c8 hl0 hX hM hO Ls xs hc hs M x4 r h kk
  rw [if_neg c8] at h
  by_cases c9 : (w0 &&& 31) = 9
  · rw [if_pos c9] at h
    refine g_tabIn (off := 544) (tgt := 583) d_Law_law_39 (by rw [c9]; decide) (by rw [c9]; decide) (by rw [c9]; rfl) (by decide) ?_
    exact t_law_c9 hl0 hX hM hO Ls xs hc hs M x4 r h kk
  rw [if_neg c9] at h
  by_cases c10 : (w0 &&& 31) = 10
  · rw [if_pos c10] at h
    refine g_tabIn (off := 612) (tgt := 651) d_Law_law_39 (by rw [c10]; decide) (by rw [c10]; decide) (by rw [c10]; rfl) (by decide) ?_
    exact t_law_c10 hl0 hX hM hO Ls xs hc hs M x4 r h kk
  rw [if_neg c10] at h
  by_cases c11 : (w0 &&& 31) = 11
  · rw [if_pos c11] at h
    refine g_tabIn (off := 656) (tgt := 695) d_Law_law_39 (by rw [c11]; decide) (by rw [c11]; decide) (by rw [c11]; rfl) (by decide) ?_
    exact t_law_c11 hl0 hX hM hO Ls xs hc hs M x4 r h kk
  rw [if_neg c11] at h
  by_cases c12 : (w0 &&& 31) = 12
  · rw [if_pos c12] at h
    refine g_tabIn (off := 712) (tgt := 751) d_Law_law_39 (by rw [c12]; decide) (by rw [c12]; decide) (by rw [c12]; rfl) (by decide) ?_
    exact t_law_c12 hl0 hX hM hO Ls xs hc hs M x4 r h kk
  rw [if_neg c12] at h
  by_cases c13 : (w0 &&& 31) = 13
  · rw [if_pos c13] at h
    refine g_tabIn (off := 756) (tgt := 795) d_Law_law_39 (by rw [c13]; decide) (by rw [c13]; decide) (by rw [c13]; rfl) (by decide) ?_
    exact t_law_c13 hl0 hX hM hO Ls xs hc hs M x4 r h kk
  rw [if_neg c13] at h
  by_cases c14 : (w0 &&& 31) = 14
  · rw [if_pos c14] at h
    refine g_tabIn (off := 812) (tgt := 851) d_Law_law_39 (by rw [c14]; decide) (by rw [c14]; decide) (by rw [c14]; rfl) (by decide) ?_
    exact t_law_c14 hl0 hX hM hO Ls xs hc hs M x4 r h kk
  rw [if_neg c14] at h
  by_cases c15 : (w0 &&& 31) = 15
  · rw [if_pos c15] at h
    refine g_tabIn (off := 825) (tgt := 864) d_Law_law_39 (by rw [c15]; decide) (by rw [c15]; decide) (by rw [c15]; rfl) (by decide) ?_
    exact t_law_c15 hl0 hX hM hO Ls xs hc hs M x4 r h kk
  rw [if_neg c15] at h
  by_cases c16 : (w0 &&& 31) = 16
  · rw [if_pos c16] at h
    refine g_tabIn (off := 933) (tgt := 972) d_Law_law_39 (by rw [c16]; decide) (by rw [c16]; decide) (by rw [c16]; rfl) (by decide) ?_
    exact t_law_c16 hl0 hX hM hO Ls xs hc hs M x4 r h kk
  rw [if_neg c16] at h
  by_cases c17 : (w0 &&& 31) = 17
  · rw [if_pos c17] at h
    refine g_tabIn (off := 989) (tgt := 1028) d_Law_law_39 (by rw [c17]; decide) (by rw [c17]; decide) (by rw [c17]; rfl) (by decide) ?_
    exact t_law_c17 hl0 hX hM hO Ls xs hc hs M x4 r h kk
  rw [if_neg c17] at h
  by_cases c18 : (w0 &&& 31) = 18
  · rw [if_pos c18] at h
    refine g_tabIn (off := 1033) (tgt := 1072) d_Law_law_39 (by rw [c18]; decide) (by rw [c18]; decide) (by rw [c18]; rfl) (by decide) ?_
    exact t_law_c18 hl0 hX hM hO Ls xs hc hs M x4 r h kk
  rw [if_neg c18] at h
  by_cases c19 : (w0 &&& 31) = 19
  · rw [if_pos c19] at h
    refine g_tabIn (off := 1133) (tgt := 1172) d_Law_law_39 (by rw [c19]; decide) (by rw [c19]; decide) (by rw [c19]; rfl) (by decide) ?_
    exact t_law_c19 hl0 hX hM hO Ls xs hc hs M x4 r h kk
  rw [if_neg c19] at h
  by_cases c20 : (w0 &&& 31) = 20
  · rw [if_pos c20] at h
    refine g_tabIn (off := 1233) (tgt := 1272) d_Law_law_39 (by rw [c20]; decide) (by rw [c20]; decide) (by rw [c20]; rfl) (by decide) ?_
    exact t_law_c20 hl0 hX hM hO Ls xs hc hs M x4 r h kk
  rw [if_neg c20] at h
  by_cases c21 : (w0 &&& 31) = 21
  · rw [if_pos c21] at h
    refine g_tabIn (off := 1289) (tgt := 1328) d_Law_law_39 (by rw [c21]; decide) (by rw [c21]; decide) (by rw [c21]; rfl) (by decide) ?_
    exact t_law_c21 hl0 hX hM hO Ls xs hc hs M x4 r h kk
  rw [if_neg c21] at h
  refine g_tabOut (tgt := 1384) d_Law_law_39 (by have n0 := lv_neT (a := 0) c0 rfl; have n1 := lv_neT (a := 1) c1 rfl; have n2 := lv_neT (a := 2) c2 rfl; have n3 := lv_neT (a := 3) c3 rfl; have n4 := lv_neT (a := 4) c4 rfl; have n5 := lv_neT (a := 5) c5 rfl; have n6 := lv_neT (a := 6) c6 rfl; have n7 := lv_neT (a := 7) c7 rfl; have n8 := lv_neT (a := 8) c8 rfl; have n9 := lv_neT (a := 9) c9 rfl; have n10 := lv_neT (a := 10) c10 rfl; have n11 := lv_neT (a := 11) c11 rfl; have n12 := lv_neT (a := 12) c12 rfl; have n13 := lv_neT (a := 13) c13 rfl; have n14 := lv_neT (a := 14) c14 rfl; have n15 := lv_neT (a := 15) c15 rfl; have n16 := lv_neT (a := 16) c16 rfl; have n17 := lv_neT (a := 17) c17 rfl; have n18 := lv_neT (a := 18) c18 rfl; have n19 := lv_neT (a := 19) c19 rfl; have n20 := lv_neT (a := 20) c20 rfl; have n21 := lv_neT (a := 21) c21 rfl; omega) (by decide) ?_
  obtain rfl := Option.some.inj h
  exact g_use (Nat.le_succ _) (Nat.le_add_right _ _) hc hs kk
theorem t_law_inc {l : Launch} {ε : gEnv} {b Ls : Nat} {xs : Nat → Int32} {ka na : Nat} {M : gMem} {x4 : Int32} (kk : gGo l ε k_law room_1 (gFm b Ls xs ka na) 23 [(0, .ref b), (1, .ref (ε.2.2.1 18 0)), (2, .ref (ε.2.2.1 19 0)), (3, .ref (ε.2.2.1 20 0)), (4, .int (x4 + 5))] [] M) : gGo l ε k_law room_1 (gFm b Ls xs ka na) 1384 [(0, .ref b), (1, .ref (ε.2.2.1 18 0)), (2, .ref (ε.2.2.1 19 0)), (3, .ref (ε.2.2.1 20 0)), (4, .int x4)] [] M := by
  refine g_iinc (v := (x4 + 5)) (L' := [(4, .int (x4 + 5)), (0, .ref b), (1, .ref (ε.2.2.1 18 0)), (2, .ref (ε.2.2.1 19 0)), (3, .ref (ε.2.2.1 20 0))]) d_Law_law_1384 (j := 4) rfl rfl (by decide) rfl ?_
  refine g_goto (tgt := 23) d_Law_law_1387 (by decide) ?_
  exact gGo_sub [1, 2, 3, 4, 0] rfl kk
theorem t_law_end {l : Launch} {ε : gEnv} {b Ls : Nat} {xs : Nat → Int32} {ka na : Nat} {M : gMem} {x4 : Int32} (h1 : ka ≤ 601024) (h2 : na ≤ 7293034) (hgo : Int32.ofNat Ls - 5 < x4) : gGo l ε k_law room_1 (gFm b Ls xs ka na) 23 [(0, .ref b), (1, .ref (ε.2.2.1 18 0)), (2, .ref (ε.2.2.1 19 0)), (3, .ref (ε.2.2.1 20 0)), (4, .int x4)] [] M := by
  refine g_iload d_Law_law_23 4 rfl ?_
  refine g_aload_n d_Law_law_25 rfl 0 rfl ?_
  refine g_slen d_Law_law_26 ?_
  refine g_iconst (v := 5) d_Law_law_27 (by decide) ?_
  refine g_isub d_Law_law_28 ?_
  refine g_icmp_gt (tgt := 1390) d_Law_law_29 (by decide) (fun c => ?_) (fun c => absurd hgo c)
  refine g_iconst (v := 1) d_Law_law_1390 (by decide) ?_
  exact g_lawEnd d_Law_law_1391 h1 h2
