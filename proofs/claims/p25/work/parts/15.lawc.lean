theorem d_Law_holds_0 : decode method_24_code 0 = .ok (.aload_n 0, 1) := by decide +kernel
theorem d_Law_holds_1 : decode method_24_code 1 = .ok (.iconst 2, 1) := by decide +kernel
theorem d_Law_holds_2 : decode method_24_code 2 = .ok (.iconst 1, 1) := by decide +kernel
theorem d_Law_holds_3 : decode method_24_code 3 = .ok (.iconst 0, 1) := by decide +kernel
theorem d_Law_holds_4 : decode method_24_code 4 = .ok (.iconst 0, 1) := by decide +kernel
theorem d_Law_holds_5 : decode method_24_code 5 = .ok (.invokestatic 132, 3) := by decide +kernel
theorem d_Law_holds_8 : decode method_24_code 8 = .ok (.istore_n 1, 1) := by decide +kernel
theorem d_Law_holds_9 : decode method_24_code 9 = .ok (.iconst 0, 1) := by decide +kernel
theorem d_Law_holds_10 : decode method_24_code 10 = .ok (.istore_n 2, 1) := by decide +kernel
theorem d_Law_holds_11 : decode method_24_code 11 = .ok (.iconst 0, 1) := by decide +kernel
theorem d_Law_holds_12 : decode method_24_code 12 = .ok (.istore_n 3, 1) := by decide +kernel
theorem d_Law_holds_13 : decode method_24_code 13 = .ok (.aload_n 0, 1) := by decide +kernel
theorem d_Law_holds_14 : decode method_24_code 14 = .ok (.iconst 2, 1) := by decide +kernel
theorem d_Law_holds_15 : decode method_24_code 15 = .ok (.iconst 5, 1) := by decide +kernel
theorem d_Law_holds_16 : decode method_24_code 16 = .ok (.iconst 0, 1) := by decide +kernel
theorem d_Law_holds_17 : decode method_24_code 17 = .ok (.iconst 0, 1) := by decide +kernel
theorem d_Law_holds_18 : decode method_24_code 18 = .ok (.invokestatic 132, 3) := by decide +kernel
theorem d_Law_holds_21 : decode method_24_code 21 = .ok (.aload_n 0, 1) := by decide +kernel
theorem d_Law_holds_22 : decode method_24_code 22 = .ok (.iconst 2, 1) := by decide +kernel
theorem d_Law_holds_23 : decode method_24_code 23 = .ok (.bipush 6, 2) := by decide +kernel
theorem d_Law_holds_25 : decode method_24_code 25 = .ok (.iconst 0, 1) := by decide +kernel
theorem d_Law_holds_26 : decode method_24_code 26 = .ok (.iconst 0, 1) := by decide +kernel
theorem d_Law_holds_27 : decode method_24_code 27 = .ok (.invokestatic 132, 3) := by decide +kernel
theorem d_Law_holds_30 : decode method_24_code 30 = .ok (.iadd, 1) := by decide +kernel
theorem d_Law_holds_31 : decode method_24_code 31 = .ok (.istore 4, 2) := by decide +kernel
theorem d_Law_holds_33 : decode method_24_code 33 = .ok (.iconst 0, 1) := by decide +kernel
theorem d_Law_holds_34 : decode method_24_code 34 = .ok (.istore 5, 2) := by decide +kernel
theorem d_Law_holds_36 : decode method_24_code 36 = .ok (.iload_n 1, 1) := by decide +kernel
theorem d_Law_holds_37 : decode method_24_code 37 = .ok (.ifCond .lt 12, 3) := by decide +kernel
theorem d_Law_holds_40 : decode method_24_code 40 = .ok (.iload_n 1, 1) := by decide +kernel
theorem d_Law_holds_41 : decode method_24_code 41 = .ok (.iconst 4, 1) := by decide +kernel
theorem d_Law_holds_42 : decode method_24_code 42 = .ok (.if_icmp .ge 7, 3) := by decide +kernel
theorem d_Law_holds_45 : decode method_24_code 45 = .ok (.iconst 1, 1) := by decide +kernel
theorem d_Law_holds_46 : decode method_24_code 46 = .ok (.goto 4, 3) := by decide +kernel
theorem d_Law_holds_49 : decode method_24_code 49 = .ok (.iconst 0, 1) := by decide +kernel
theorem d_Law_holds_50 : decode method_24_code 50 = .ok (.istore 6, 2) := by decide +kernel
theorem d_Law_holds_52 : decode method_24_code 52 = .ok (.iconst 0, 1) := by decide +kernel
theorem d_Law_holds_53 : decode method_24_code 53 = .ok (.istore 7, 2) := by decide +kernel
theorem d_Law_holds_55 : decode method_24_code 55 = .ok (.iload 7, 2) := by decide +kernel
theorem d_Law_holds_57 : decode method_24_code 57 = .ok (.bipush 32, 2) := by decide +kernel
theorem d_Law_holds_59 : decode method_24_code 59 = .ok (.if_icmp .ge 139, 3) := by decide +kernel
theorem d_Law_holds_62 : decode method_24_code 62 = .ok (.iload 6, 2) := by decide +kernel
theorem d_Law_holds_64 : decode method_24_code 64 = .ok (.ifCond .eq 134, 3) := by decide +kernel
theorem d_Law_holds_67 : decode method_24_code 67 = .ok (.aload_n 0, 1) := by decide +kernel
theorem d_Law_holds_68 : decode method_24_code 68 = .ok (.iconst 3, 1) := by decide +kernel
theorem d_Law_holds_69 : decode method_24_code 69 = .ok (.iload 7, 2) := by decide +kernel
theorem d_Law_holds_71 : decode method_24_code 71 = .ok (.iconst 0, 1) := by decide +kernel
theorem d_Law_holds_72 : decode method_24_code 72 = .ok (.iconst 0, 1) := by decide +kernel
theorem d_Law_holds_73 : decode method_24_code 73 = .ok (.invokestatic 132, 3) := by decide +kernel
theorem d_Law_holds_76 : decode method_24_code 76 = .ok (.istore 8, 2) := by decide +kernel
theorem d_Law_holds_78 : decode method_24_code 78 = .ok (.aload_n 0, 1) := by decide +kernel
theorem d_Law_holds_79 : decode method_24_code 79 = .ok (.iconst 3, 1) := by decide +kernel
theorem d_Law_holds_80 : decode method_24_code 80 = .ok (.iload 7, 2) := by decide +kernel
theorem d_Law_holds_82 : decode method_24_code 82 = .ok (.iconst 1, 1) := by decide +kernel
theorem d_Law_holds_83 : decode method_24_code 83 = .ok (.iconst 0, 1) := by decide +kernel
theorem d_Law_holds_84 : decode method_24_code 84 = .ok (.invokestatic 132, 3) := by decide +kernel
theorem d_Law_holds_87 : decode method_24_code 87 = .ok (.istore 9, 2) := by decide +kernel
theorem d_Law_holds_89 : decode method_24_code 89 = .ok (.aload_n 0, 1) := by decide +kernel
theorem d_Law_holds_90 : decode method_24_code 90 = .ok (.iconst 3, 1) := by decide +kernel
theorem d_Law_holds_91 : decode method_24_code 91 = .ok (.iload 7, 2) := by decide +kernel
theorem d_Law_holds_93 : decode method_24_code 93 = .ok (.iconst 2, 1) := by decide +kernel
theorem d_Law_holds_94 : decode method_24_code 94 = .ok (.iconst 0, 1) := by decide +kernel
theorem d_Law_holds_95 : decode method_24_code 95 = .ok (.invokestatic 132, 3) := by decide +kernel
theorem d_Law_holds_98 : decode method_24_code 98 = .ok (.istore 10, 2) := by decide +kernel
theorem d_Law_holds_100 : decode method_24_code 100 = .ok (.iload_n 3, 1) := by decide +kernel
theorem d_Law_holds_101 : decode method_24_code 101 = .ok (.iload 8, 2) := by decide +kernel
theorem d_Law_holds_103 : decode method_24_code 103 = .ok (.iconst (-1), 1) := by decide +kernel
theorem d_Law_holds_104 : decode method_24_code 104 = .ok (.if_icmp .ne 7, 3) := by decide +kernel
theorem d_Law_holds_107 : decode method_24_code 107 = .ok (.iconst 1, 1) := by decide +kernel
theorem d_Law_holds_108 : decode method_24_code 108 = .ok (.goto 4, 3) := by decide +kernel
theorem d_Law_holds_111 : decode method_24_code 111 = .ok (.iconst 0, 1) := by decide +kernel
theorem d_Law_holds_112 : decode method_24_code 112 = .ok (.iadd, 1) := by decide +kernel
theorem d_Law_holds_113 : decode method_24_code 113 = .ok (.istore_n 3, 1) := by decide +kernel
theorem d_Law_holds_114 : decode method_24_code 114 = .ok (.iload_n 2, 1) := by decide +kernel
theorem d_Law_holds_115 : decode method_24_code 115 = .ok (.iload 10, 2) := by decide +kernel
theorem d_Law_holds_117 : decode method_24_code 117 = .ok (.iconst (-1), 1) := by decide +kernel
theorem d_Law_holds_118 : decode method_24_code 118 = .ok (.if_icmp .ne 7, 3) := by decide +kernel
theorem d_Law_holds_121 : decode method_24_code 121 = .ok (.iconst 0, 1) := by decide +kernel
theorem d_Law_holds_122 : decode method_24_code 122 = .ok (.goto 4, 3) := by decide +kernel
theorem d_Law_holds_125 : decode method_24_code 125 = .ok (.iconst 1, 1) := by decide +kernel
theorem d_Law_holds_126 : decode method_24_code 126 = .ok (.iadd, 1) := by decide +kernel
theorem d_Law_holds_127 : decode method_24_code 127 = .ok (.istore_n 2, 1) := by decide +kernel
theorem d_Law_holds_128 : decode method_24_code 128 = .ok (.iload_n 1, 1) := by decide +kernel
theorem d_Law_holds_129 : decode method_24_code 129 = .ok (.ifCond .ne 7, 3) := by decide +kernel
theorem d_Law_holds_132 : decode method_24_code 132 = .ok (.iconst 1, 1) := by decide +kernel
theorem d_Law_holds_133 : decode method_24_code 133 = .ok (.goto 4, 3) := by decide +kernel
theorem d_Law_holds_136 : decode method_24_code 136 = .ok (.iconst 0, 1) := by decide +kernel
theorem d_Law_holds_137 : decode method_24_code 137 = .ok (.iload 9, 2) := by decide +kernel
theorem d_Law_holds_139 : decode method_24_code 139 = .ok (.iconst (-1), 1) := by decide +kernel
theorem d_Law_holds_140 : decode method_24_code 140 = .ok (.if_icmp .ne 7, 3) := by decide +kernel
theorem d_Law_holds_143 : decode method_24_code 143 = .ok (.iconst 1, 1) := by decide +kernel
theorem d_Law_holds_144 : decode method_24_code 144 = .ok (.goto 4, 3) := by decide +kernel
theorem d_Law_holds_147 : decode method_24_code 147 = .ok (.iconst 0, 1) := by decide +kernel
theorem d_Law_holds_148 : decode method_24_code 148 = .ok (.if_icmp .ne 41, 3) := by decide +kernel
theorem d_Law_holds_151 : decode method_24_code 151 = .ok (.iload 10, 2) := by decide +kernel
theorem d_Law_holds_153 : decode method_24_code 153 = .ok (.iconst (-1), 1) := by decide +kernel
theorem d_Law_holds_154 : decode method_24_code 154 = .ok (.if_icmp .ne 13, 3) := by decide +kernel
theorem d_Law_holds_157 : decode method_24_code 157 = .ok (.iload 8, 2) := by decide +kernel
theorem d_Law_holds_159 : decode method_24_code 159 = .ok (.iload 9, 2) := by decide +kernel
theorem d_Law_holds_161 : decode method_24_code 161 = .ok (.if_icmp .ne 28, 3) := by decide +kernel
theorem d_Law_holds_164 : decode method_24_code 164 = .ok (.goto 21, 3) := by decide +kernel
theorem d_Law_holds_167 : decode method_24_code 167 = .ok (.iload 8, 2) := by decide +kernel
theorem d_Law_holds_169 : decode method_24_code 169 = .ok (.iconst (-1), 1) := by decide +kernel
theorem d_Law_holds_170 : decode method_24_code 170 = .ok (.if_icmp .ne 19, 3) := by decide +kernel
theorem d_Law_holds_173 : decode method_24_code 173 = .ok (.iload 10, 2) := by decide +kernel
theorem d_Law_holds_175 : decode method_24_code 175 = .ok (.bipush 32, 2) := by decide +kernel
theorem d_Law_holds_177 : decode method_24_code 177 = .ok (.if_icmp .ge 12, 3) := by decide +kernel
theorem d_Law_holds_180 : decode method_24_code 180 = .ok (.iload_n 1, 1) := by decide +kernel
theorem d_Law_holds_181 : decode method_24_code 181 = .ok (.iconst 2, 1) := by decide +kernel
theorem d_Law_holds_182 : decode method_24_code 182 = .ok (.if_icmp .lt 7, 3) := by decide +kernel
theorem d_Law_holds_185 : decode method_24_code 185 = .ok (.iconst 1, 1) := by decide +kernel
theorem d_Law_holds_186 : decode method_24_code 186 = .ok (.goto 4, 3) := by decide +kernel
theorem d_Law_holds_189 : decode method_24_code 189 = .ok (.iconst 0, 1) := by decide +kernel
theorem d_Law_holds_190 : decode method_24_code 190 = .ok (.istore 6, 2) := by decide +kernel
theorem d_Law_holds_192 : decode method_24_code 192 = .ok (.iinc 7 1, 3) := by decide +kernel
theorem d_Law_holds_195 : decode method_24_code 195 = .ok (.goto (-140), 3) := by decide +kernel
theorem d_Law_holds_198 : decode method_24_code 198 = .ok (.iconst 0, 1) := by decide +kernel
theorem d_Law_holds_199 : decode method_24_code 199 = .ok (.istore 7, 2) := by decide +kernel
theorem d_Law_holds_201 : decode method_24_code 201 = .ok (.iconst 0, 1) := by decide +kernel
theorem d_Law_holds_202 : decode method_24_code 202 = .ok (.istore 8, 2) := by decide +kernel
theorem d_Law_holds_204 : decode method_24_code 204 = .ok (.iconst 0, 1) := by decide +kernel
theorem d_Law_holds_205 : decode method_24_code 205 = .ok (.istore 9, 2) := by decide +kernel
theorem d_Law_holds_207 : decode method_24_code 207 = .ok (.iload 9, 2) := by decide +kernel
theorem d_Law_holds_209 : decode method_24_code 209 = .ok (.iconst 4, 1) := by decide +kernel
theorem d_Law_holds_210 : decode method_24_code 210 = .ok (.if_icmp .ge 266, 3) := by decide +kernel
theorem d_Law_holds_213 : decode method_24_code 213 = .ok (.iload 6, 2) := by decide +kernel
theorem d_Law_holds_215 : decode method_24_code 215 = .ok (.ifCond .eq 261, 3) := by decide +kernel
theorem d_Law_holds_218 : decode method_24_code 218 = .ok (.iconst 0, 1) := by decide +kernel
theorem d_Law_holds_219 : decode method_24_code 219 = .ok (.istore 10, 2) := by decide +kernel
theorem d_Law_holds_221 : decode method_24_code 221 = .ok (.iconst 0, 1) := by decide +kernel
theorem d_Law_holds_222 : decode method_24_code 222 = .ok (.istore 11, 2) := by decide +kernel
theorem d_Law_holds_224 : decode method_24_code 224 = .ok (.iconst 0, 1) := by decide +kernel
theorem d_Law_holds_225 : decode method_24_code 225 = .ok (.istore 12, 2) := by decide +kernel
theorem d_Law_holds_227 : decode method_24_code 227 = .ok (.iload 12, 2) := by decide +kernel
theorem d_Law_holds_229 : decode method_24_code 229 = .ok (.iconst 4, 1) := by decide +kernel
theorem d_Law_holds_230 : decode method_24_code 230 = .ok (.if_icmp .ge 206, 3) := by decide +kernel
theorem d_Law_holds_233 : decode method_24_code 233 = .ok (.iload 6, 2) := by decide +kernel
theorem d_Law_holds_235 : decode method_24_code 235 = .ok (.ifCond .eq 201, 3) := by decide +kernel
theorem d_Law_holds_238 : decode method_24_code 238 = .ok (.aload_n 0, 1) := by decide +kernel
theorem d_Law_holds_239 : decode method_24_code 239 = .ok (.iconst 4, 1) := by decide +kernel
theorem d_Law_holds_240 : decode method_24_code 240 = .ok (.iload 9, 2) := by decide +kernel
theorem d_Law_holds_242 : decode method_24_code 242 = .ok (.iload 12, 2) := by decide +kernel
theorem d_Law_holds_244 : decode method_24_code 244 = .ok (.iconst 0, 1) := by decide +kernel
theorem d_Law_holds_245 : decode method_24_code 245 = .ok (.invokestatic 132, 3) := by decide +kernel
theorem d_Law_holds_248 : decode method_24_code 248 = .ok (.istore 13, 2) := by decide +kernel
theorem d_Law_holds_250 : decode method_24_code 250 = .ok (.aload_n 0, 1) := by decide +kernel
theorem d_Law_holds_251 : decode method_24_code 251 = .ok (.iconst 4, 1) := by decide +kernel
theorem d_Law_holds_252 : decode method_24_code 252 = .ok (.iload 9, 2) := by decide +kernel
theorem d_Law_holds_254 : decode method_24_code 254 = .ok (.iload 12, 2) := by decide +kernel
theorem d_Law_holds_256 : decode method_24_code 256 = .ok (.iconst 1, 1) := by decide +kernel
theorem d_Law_holds_257 : decode method_24_code 257 = .ok (.invokestatic 132, 3) := by decide +kernel
theorem d_Law_holds_260 : decode method_24_code 260 = .ok (.istore 14, 2) := by decide +kernel
theorem d_Law_holds_262 : decode method_24_code 262 = .ok (.aload_n 0, 1) := by decide +kernel
theorem d_Law_holds_263 : decode method_24_code 263 = .ok (.iconst 4, 1) := by decide +kernel
theorem d_Law_holds_264 : decode method_24_code 264 = .ok (.iload 9, 2) := by decide +kernel
theorem d_Law_holds_266 : decode method_24_code 266 = .ok (.iload 12, 2) := by decide +kernel
theorem d_Law_holds_268 : decode method_24_code 268 = .ok (.iconst 2, 1) := by decide +kernel
theorem d_Law_holds_269 : decode method_24_code 269 = .ok (.invokestatic 132, 3) := by decide +kernel
theorem d_Law_holds_272 : decode method_24_code 272 = .ok (.istore 15, 2) := by decide +kernel
theorem d_Law_holds_274 : decode method_24_code 274 = .ok (.aload_n 0, 1) := by decide +kernel
theorem d_Law_holds_275 : decode method_24_code 275 = .ok (.iconst 4, 1) := by decide +kernel
theorem d_Law_holds_276 : decode method_24_code 276 = .ok (.iload 9, 2) := by decide +kernel
theorem d_Law_holds_278 : decode method_24_code 278 = .ok (.iload 12, 2) := by decide +kernel
theorem d_Law_holds_280 : decode method_24_code 280 = .ok (.iconst 3, 1) := by decide +kernel
theorem d_Law_holds_281 : decode method_24_code 281 = .ok (.invokestatic 132, 3) := by decide +kernel
theorem d_Law_holds_284 : decode method_24_code 284 = .ok (.istore 16, 2) := by decide +kernel
theorem d_Law_holds_286 : decode method_24_code 286 = .ok (.aload_n 0, 1) := by decide +kernel
theorem d_Law_holds_287 : decode method_24_code 287 = .ok (.iconst 4, 1) := by decide +kernel
theorem d_Law_holds_288 : decode method_24_code 288 = .ok (.iload 9, 2) := by decide +kernel
theorem d_Law_holds_290 : decode method_24_code 290 = .ok (.iload 12, 2) := by decide +kernel
theorem d_Law_holds_292 : decode method_24_code 292 = .ok (.iconst 4, 1) := by decide +kernel
theorem d_Law_holds_293 : decode method_24_code 293 = .ok (.invokestatic 132, 3) := by decide +kernel
theorem d_Law_holds_296 : decode method_24_code 296 = .ok (.istore 17, 2) := by decide +kernel
theorem d_Law_holds_298 : decode method_24_code 298 = .ok (.iload 10, 2) := by decide +kernel
theorem d_Law_holds_300 : decode method_24_code 300 = .ok (.iload 13, 2) := by decide +kernel
theorem d_Law_holds_302 : decode method_24_code 302 = .ok (.iadd, 1) := by decide +kernel
theorem d_Law_holds_303 : decode method_24_code 303 = .ok (.istore 10, 2) := by decide +kernel
theorem d_Law_holds_305 : decode method_24_code 305 = .ok (.iload 11, 2) := by decide +kernel
theorem d_Law_holds_307 : decode method_24_code 307 = .ok (.iload 14, 2) := by decide +kernel
theorem d_Law_holds_309 : decode method_24_code 309 = .ok (.iadd, 1) := by decide +kernel
theorem d_Law_holds_310 : decode method_24_code 310 = .ok (.istore 11, 2) := by decide +kernel
theorem d_Law_holds_312 : decode method_24_code 312 = .ok (.iload 7, 2) := by decide +kernel
theorem d_Law_holds_314 : decode method_24_code 314 = .ok (.iload 15, 2) := by decide +kernel
theorem d_Law_holds_316 : decode method_24_code 316 = .ok (.iadd, 1) := by decide +kernel
theorem d_Law_holds_317 : decode method_24_code 317 = .ok (.istore 7, 2) := by decide +kernel
theorem d_Law_holds_319 : decode method_24_code 319 = .ok (.iload 8, 2) := by decide +kernel
theorem d_Law_holds_321 : decode method_24_code 321 = .ok (.iload 16, 2) := by decide +kernel
theorem d_Law_holds_323 : decode method_24_code 323 = .ok (.ifCond .ne 7, 3) := by decide +kernel
theorem d_Law_holds_326 : decode method_24_code 326 = .ok (.iconst 0, 1) := by decide +kernel
theorem d_Law_holds_327 : decode method_24_code 327 = .ok (.goto 4, 3) := by decide +kernel
theorem d_Law_holds_330 : decode method_24_code 330 = .ok (.iconst 1, 1) := by decide +kernel
theorem d_Law_holds_331 : decode method_24_code 331 = .ok (.iadd, 1) := by decide +kernel
theorem d_Law_holds_332 : decode method_24_code 332 = .ok (.istore 8, 2) := by decide +kernel
theorem d_Law_holds_334 : decode method_24_code 334 = .ok (.iload 13, 2) := by decide +kernel
theorem d_Law_holds_336 : decode method_24_code 336 = .ok (.iload 14, 2) := by decide +kernel
theorem d_Law_holds_338 : decode method_24_code 338 = .ok (.if_icmp .gt 89, 3) := by decide +kernel
theorem d_Law_holds_341 : decode method_24_code 341 = .ok (.iload 15, 2) := by decide +kernel
theorem d_Law_holds_343 : decode method_24_code 343 = .ok (.iload 14, 2) := by decide +kernel
theorem d_Law_holds_345 : decode method_24_code 345 = .ok (.iload 13, 2) := by decide +kernel
theorem d_Law_holds_347 : decode method_24_code 347 = .ok (.isub, 1) := by decide +kernel
theorem d_Law_holds_348 : decode method_24_code 348 = .ok (.if_icmp .gt 79, 3) := by decide +kernel
theorem d_Law_holds_351 : decode method_24_code 351 = .ok (.iload 16, 2) := by decide +kernel
theorem d_Law_holds_353 : decode method_24_code 353 = .ok (.ifCond .le 7, 3) := by decide +kernel
theorem d_Law_holds_356 : decode method_24_code 356 = .ok (.iconst 1, 1) := by decide +kernel
theorem d_Law_holds_357 : decode method_24_code 357 = .ok (.goto 4, 3) := by decide +kernel
theorem d_Law_holds_360 : decode method_24_code 360 = .ok (.iconst 0, 1) := by decide +kernel
theorem d_Law_holds_361 : decode method_24_code 361 = .ok (.iload 15, 2) := by decide +kernel
theorem d_Law_holds_363 : decode method_24_code 363 = .ok (.iconst 1, 1) := by decide +kernel
theorem d_Law_holds_364 : decode method_24_code 364 = .ok (.if_icmp .le 7, 3) := by decide +kernel
theorem d_Law_holds_367 : decode method_24_code 367 = .ok (.iconst 1, 1) := by decide +kernel
theorem d_Law_holds_368 : decode method_24_code 368 = .ok (.goto 4, 3) := by decide +kernel
theorem d_Law_holds_371 : decode method_24_code 371 = .ok (.iconst 0, 1) := by decide +kernel
theorem d_Law_holds_372 : decode method_24_code 372 = .ok (.if_icmp .ne 55, 3) := by decide +kernel
theorem d_Law_holds_375 : decode method_24_code 375 = .ok (.iload 17, 2) := by decide +kernel
theorem d_Law_holds_377 : decode method_24_code 377 = .ok (.iload 16, 2) := by decide +kernel
theorem d_Law_holds_379 : decode method_24_code 379 = .ok (.ifCond .ne 7, 3) := by decide +kernel
theorem d_Law_holds_382 : decode method_24_code 382 = .ok (.iconst (-1), 1) := by decide +kernel
theorem d_Law_holds_383 : decode method_24_code 383 = .ok (.goto 19, 3) := by decide +kernel
theorem d_Law_holds_386 : decode method_24_code 386 = .ok (.iload 16, 2) := by decide +kernel
theorem d_Law_holds_388 : decode method_24_code 388 = .ok (.iconst 2, 1) := by decide +kernel
theorem d_Law_holds_389 : decode method_24_code 389 = .ok (.irem, 1) := by decide +kernel
theorem d_Law_holds_390 : decode method_24_code 390 = .ok (.iload 14, 2) := by decide +kernel
theorem d_Law_holds_392 : decode method_24_code 392 = .ok (.iconst 2, 1) := by decide +kernel
theorem d_Law_holds_393 : decode method_24_code 393 = .ok (.irem, 1) := by decide +kernel
theorem d_Law_holds_394 : decode method_24_code 394 = .ok (.if_icmp .ne 7, 3) := by decide +kernel
theorem d_Law_holds_397 : decode method_24_code 397 = .ok (.iconst 1, 1) := by decide +kernel
theorem d_Law_holds_398 : decode method_24_code 398 = .ok (.goto 4, 3) := by decide +kernel
theorem d_Law_holds_401 : decode method_24_code 401 = .ok (.iconst 0, 1) := by decide +kernel
theorem d_Law_holds_402 : decode method_24_code 402 = .ok (.if_icmp .ne 25, 3) := by decide +kernel
theorem d_Law_holds_405 : decode method_24_code 405 = .ok (.aload_n 0, 1) := by decide +kernel
theorem d_Law_holds_406 : decode method_24_code 406 = .ok (.iconst 4, 1) := by decide +kernel
theorem d_Law_holds_407 : decode method_24_code 407 = .ok (.iload 9, 2) := by decide +kernel
theorem d_Law_holds_409 : decode method_24_code 409 = .ok (.iload 12, 2) := by decide +kernel
theorem d_Law_holds_411 : decode method_24_code 411 = .ok (.iconst 5, 1) := by decide +kernel
theorem d_Law_holds_412 : decode method_24_code 412 = .ok (.invokestatic 132, 3) := by decide +kernel
theorem d_Law_holds_415 : decode method_24_code 415 = .ok (.ifCond .eq 8, 3) := by decide +kernel
theorem d_Law_holds_418 : decode method_24_code 418 = .ok (.iload 13, 2) := by decide +kernel
theorem d_Law_holds_420 : decode method_24_code 420 = .ok (.ifCond .ne 7, 3) := by decide +kernel
theorem d_Law_holds_423 : decode method_24_code 423 = .ok (.iconst 1, 1) := by decide +kernel
theorem d_Law_holds_424 : decode method_24_code 424 = .ok (.goto 4, 3) := by decide +kernel
theorem d_Law_holds_427 : decode method_24_code 427 = .ok (.iconst 0, 1) := by decide +kernel
theorem d_Law_holds_428 : decode method_24_code 428 = .ok (.istore 6, 2) := by decide +kernel
theorem d_Law_holds_430 : decode method_24_code 430 = .ok (.iinc 12 1, 3) := by decide +kernel
theorem d_Law_holds_433 : decode method_24_code 433 = .ok (.goto (-206), 3) := by decide +kernel
theorem d_Law_holds_436 : decode method_24_code 436 = .ok (.iload 6, 2) := by decide +kernel
theorem d_Law_holds_438 : decode method_24_code 438 = .ok (.ifCond .eq 29, 3) := by decide +kernel
theorem d_Law_holds_441 : decode method_24_code 441 = .ok (.iload 11, 2) := by decide +kernel
theorem d_Law_holds_443 : decode method_24_code 443 = .ok (.iload_n 1, 1) := by decide +kernel
theorem d_Law_holds_444 : decode method_24_code 444 = .ok (.ifCond .ne 7, 3) := by decide +kernel
theorem d_Law_holds_447 : decode method_24_code 447 = .ok (.iconst 0, 1) := by decide +kernel
theorem d_Law_holds_448 : decode method_24_code 448 = .ok (.goto 5, 3) := by decide +kernel
theorem d_Law_holds_451 : decode method_24_code 451 = .ok (.bipush 8, 2) := by decide +kernel
theorem d_Law_holds_453 : decode method_24_code 453 = .ok (.if_icmp .ne 14, 3) := by decide +kernel
theorem d_Law_holds_456 : decode method_24_code 456 = .ok (.iload 10, 2) := by decide +kernel
theorem d_Law_holds_458 : decode method_24_code 458 = .ok (.iload 11, 2) := by decide +kernel
theorem d_Law_holds_460 : decode method_24_code 460 = .ok (.if_icmp .gt 7, 3) := by decide +kernel
theorem d_Law_holds_463 : decode method_24_code 463 = .ok (.iconst 1, 1) := by decide +kernel
theorem d_Law_holds_464 : decode method_24_code 464 = .ok (.goto 4, 3) := by decide +kernel
theorem d_Law_holds_467 : decode method_24_code 467 = .ok (.iconst 0, 1) := by decide +kernel
theorem d_Law_holds_468 : decode method_24_code 468 = .ok (.istore 6, 2) := by decide +kernel
theorem d_Law_holds_470 : decode method_24_code 470 = .ok (.iinc 9 1, 3) := by decide +kernel
theorem d_Law_holds_473 : decode method_24_code 473 = .ok (.goto (-266), 3) := by decide +kernel
theorem d_Law_holds_476 : decode method_24_code 476 = .ok (.iconst 0, 1) := by decide +kernel
theorem d_Law_holds_477 : decode method_24_code 477 = .ok (.istore 9, 2) := by decide +kernel
theorem d_Law_holds_479 : decode method_24_code 479 = .ok (.iload 9, 2) := by decide +kernel
theorem d_Law_holds_481 : decode method_24_code 481 = .ok (.iconst 4, 1) := by decide +kernel
theorem d_Law_holds_482 : decode method_24_code 482 = .ok (.if_icmp .ge 86, 3) := by decide +kernel
theorem d_Law_holds_485 : decode method_24_code 485 = .ok (.iload 6, 2) := by decide +kernel
theorem d_Law_holds_487 : decode method_24_code 487 = .ok (.ifCond .eq 81, 3) := by decide +kernel
theorem d_Law_holds_490 : decode method_24_code 490 = .ok (.aload_n 0, 1) := by decide +kernel
theorem d_Law_holds_491 : decode method_24_code 491 = .ok (.iconst 5, 1) := by decide +kernel
theorem d_Law_holds_492 : decode method_24_code 492 = .ok (.iload 9, 2) := by decide +kernel
theorem d_Law_holds_494 : decode method_24_code 494 = .ok (.iconst 0, 1) := by decide +kernel
theorem d_Law_holds_495 : decode method_24_code 495 = .ok (.iconst 0, 1) := by decide +kernel
theorem d_Law_holds_496 : decode method_24_code 496 = .ok (.invokestatic 132, 3) := by decide +kernel
theorem d_Law_holds_499 : decode method_24_code 499 = .ok (.istore 10, 2) := by decide +kernel
theorem d_Law_holds_501 : decode method_24_code 501 = .ok (.iload 5, 2) := by decide +kernel
theorem d_Law_holds_503 : decode method_24_code 503 = .ok (.iload 10, 2) := by decide +kernel
theorem d_Law_holds_505 : decode method_24_code 505 = .ok (.iconst (-1), 1) := by decide +kernel
theorem d_Law_holds_506 : decode method_24_code 506 = .ok (.if_icmp .ne 7, 3) := by decide +kernel
theorem d_Law_holds_509 : decode method_24_code 509 = .ok (.iconst 0, 1) := by decide +kernel
theorem d_Law_holds_510 : decode method_24_code 510 = .ok (.goto 4, 3) := by decide +kernel
theorem d_Law_holds_513 : decode method_24_code 513 = .ok (.iconst 1, 1) := by decide +kernel
theorem d_Law_holds_514 : decode method_24_code 514 = .ok (.iadd, 1) := by decide +kernel
theorem d_Law_holds_515 : decode method_24_code 515 = .ok (.istore 5, 2) := by decide +kernel
theorem d_Law_holds_517 : decode method_24_code 517 = .ok (.iload 10, 2) := by decide +kernel
theorem d_Law_holds_519 : decode method_24_code 519 = .ok (.iconst (-1), 1) := by decide +kernel
theorem d_Law_holds_520 : decode method_24_code 520 = .ok (.if_icmp .ne 7, 3) := by decide +kernel
theorem d_Law_holds_523 : decode method_24_code 523 = .ok (.iconst 1, 1) := by decide +kernel
theorem d_Law_holds_524 : decode method_24_code 524 = .ok (.goto 36, 3) := by decide +kernel
theorem d_Law_holds_527 : decode method_24_code 527 = .ok (.iload 5, 2) := by decide +kernel
theorem d_Law_holds_529 : decode method_24_code 529 = .ok (.iload 9, 2) := by decide +kernel
theorem d_Law_holds_531 : decode method_24_code 531 = .ok (.iconst 1, 1) := by decide +kernel
theorem d_Law_holds_532 : decode method_24_code 532 = .ok (.iadd, 1) := by decide +kernel
theorem d_Law_holds_533 : decode method_24_code 533 = .ok (.if_icmp .ne 26, 3) := by decide +kernel
theorem d_Law_holds_536 : decode method_24_code 536 = .ok (.aload_n 0, 1) := by decide +kernel
theorem d_Law_holds_537 : decode method_24_code 537 = .ok (.iconst 3, 1) := by decide +kernel
theorem d_Law_holds_538 : decode method_24_code 538 = .ok (.iload 10, 2) := by decide +kernel
theorem d_Law_holds_540 : decode method_24_code 540 = .ok (.iconst 2, 1) := by decide +kernel
theorem d_Law_holds_541 : decode method_24_code 541 = .ok (.iconst 0, 1) := by decide +kernel
theorem d_Law_holds_542 : decode method_24_code 542 = .ok (.invokestatic 132, 3) := by decide +kernel
theorem d_Law_holds_545 : decode method_24_code 545 = .ok (.iconst 4, 1) := by decide +kernel
theorem d_Law_holds_546 : decode method_24_code 546 = .ok (.iload 4, 2) := by decide +kernel
theorem d_Law_holds_548 : decode method_24_code 548 = .ok (.imul, 1) := by decide +kernel
theorem d_Law_holds_549 : decode method_24_code 549 = .ok (.iload 9, 2) := by decide +kernel
theorem d_Law_holds_551 : decode method_24_code 551 = .ok (.iadd, 1) := by decide +kernel
theorem d_Law_holds_552 : decode method_24_code 552 = .ok (.if_icmp .ne 7, 3) := by decide +kernel
theorem d_Law_holds_555 : decode method_24_code 555 = .ok (.iconst 1, 1) := by decide +kernel
theorem d_Law_holds_556 : decode method_24_code 556 = .ok (.goto 4, 3) := by decide +kernel
theorem d_Law_holds_559 : decode method_24_code 559 = .ok (.iconst 0, 1) := by decide +kernel
theorem d_Law_holds_560 : decode method_24_code 560 = .ok (.istore 6, 2) := by decide +kernel
theorem d_Law_holds_562 : decode method_24_code 562 = .ok (.iinc 9 1, 3) := by decide +kernel
theorem d_Law_holds_565 : decode method_24_code 565 = .ok (.goto (-86), 3) := by decide +kernel
theorem d_Law_holds_568 : decode method_24_code 568 = .ok (.iconst 0, 1) := by decide +kernel
theorem d_Law_holds_569 : decode method_24_code 569 = .ok (.istore 9, 2) := by decide +kernel
theorem d_Law_holds_571 : decode method_24_code 571 = .ok (.iconst (-1), 1) := by decide +kernel
theorem d_Law_holds_572 : decode method_24_code 572 = .ok (.istore 10, 2) := by decide +kernel
theorem d_Law_holds_574 : decode method_24_code 574 = .ok (.iconst 0, 1) := by decide +kernel
theorem d_Law_holds_575 : decode method_24_code 575 = .ok (.istore 11, 2) := by decide +kernel
theorem d_Law_holds_577 : decode method_24_code 577 = .ok (.iconst 0, 1) := by decide +kernel
theorem d_Law_holds_578 : decode method_24_code 578 = .ok (.istore 12, 2) := by decide +kernel
theorem d_Law_holds_580 : decode method_24_code 580 = .ok (.iload 12, 2) := by decide +kernel
theorem d_Law_holds_582 : decode method_24_code 582 = .ok (.bipush 8, 2) := by decide +kernel
theorem d_Law_holds_584 : decode method_24_code 584 = .ok (.if_icmp .ge 127, 3) := by decide +kernel
theorem d_Law_holds_587 : decode method_24_code 587 = .ok (.iload 6, 2) := by decide +kernel
theorem d_Law_holds_589 : decode method_24_code 589 = .ok (.ifCond .eq 122, 3) := by decide +kernel
theorem d_Law_holds_592 : decode method_24_code 592 = .ok (.aload_n 0, 1) := by decide +kernel
theorem d_Law_holds_593 : decode method_24_code 593 = .ok (.bipush 10, 2) := by decide +kernel
theorem d_Law_holds_595 : decode method_24_code 595 = .ok (.iload 12, 2) := by decide +kernel
theorem d_Law_holds_597 : decode method_24_code 597 = .ok (.iconst 0, 1) := by decide +kernel
theorem d_Law_holds_598 : decode method_24_code 598 = .ok (.iconst 0, 1) := by decide +kernel
theorem d_Law_holds_599 : decode method_24_code 599 = .ok (.invokestatic 132, 3) := by decide +kernel
theorem d_Law_holds_602 : decode method_24_code 602 = .ok (.istore 13, 2) := by decide +kernel
theorem d_Law_holds_604 : decode method_24_code 604 = .ok (.iload 9, 2) := by decide +kernel
theorem d_Law_holds_606 : decode method_24_code 606 = .ok (.iload 13, 2) := by decide +kernel
theorem d_Law_holds_608 : decode method_24_code 608 = .ok (.iconst (-1), 1) := by decide +kernel
theorem d_Law_holds_609 : decode method_24_code 609 = .ok (.if_icmp .ne 7, 3) := by decide +kernel
theorem d_Law_holds_612 : decode method_24_code 612 = .ok (.iconst 0, 1) := by decide +kernel
theorem d_Law_holds_613 : decode method_24_code 613 = .ok (.goto 4, 3) := by decide +kernel
theorem d_Law_holds_616 : decode method_24_code 616 = .ok (.iconst 1, 1) := by decide +kernel
theorem d_Law_holds_617 : decode method_24_code 617 = .ok (.iadd, 1) := by decide +kernel
theorem d_Law_holds_618 : decode method_24_code 618 = .ok (.istore 9, 2) := by decide +kernel
theorem d_Law_holds_620 : decode method_24_code 620 = .ok (.iload 11, 2) := by decide +kernel
theorem d_Law_holds_622 : decode method_24_code 622 = .ok (.ifCond .ne 18, 3) := by decide +kernel
theorem d_Law_holds_625 : decode method_24_code 625 = .ok (.iload 13, 2) := by decide +kernel
theorem d_Law_holds_627 : decode method_24_code 627 = .ok (.iconst (-1), 1) := by decide +kernel
theorem d_Law_holds_628 : decode method_24_code 628 = .ok (.if_icmp .eq 16, 3) := by decide +kernel
theorem d_Law_holds_631 : decode method_24_code 631 = .ok (.iload 13, 2) := by decide +kernel
theorem d_Law_holds_633 : decode method_24_code 633 = .ok (.aload_n 0, 1) := by decide +kernel
theorem d_Law_holds_634 : decode method_24_code 634 = .ok (.invokevirtual 150, 3) := by decide +kernel
theorem d_Law_holds_637 : decode method_24_code 637 = .ok (.if_icmp .ne 7, 3) := by decide +kernel
theorem d_Law_holds_640 : decode method_24_code 640 = .ok (.iconst 1, 1) := by decide +kernel
theorem d_Law_holds_641 : decode method_24_code 641 = .ok (.goto 4, 3) := by decide +kernel
theorem d_Law_holds_644 : decode method_24_code 644 = .ok (.iconst 0, 1) := by decide +kernel
theorem d_Law_holds_645 : decode method_24_code 645 = .ok (.istore 11, 2) := by decide +kernel
theorem d_Law_holds_647 : decode method_24_code 647 = .ok (.iload 13, 2) := by decide +kernel
theorem d_Law_holds_649 : decode method_24_code 649 = .ok (.iconst (-1), 1) := by decide +kernel
theorem d_Law_holds_650 : decode method_24_code 650 = .ok (.if_icmp .eq 44, 3) := by decide +kernel
theorem d_Law_holds_653 : decode method_24_code 653 = .ok (.iload 13, 2) := by decide +kernel
theorem d_Law_holds_655 : decode method_24_code 655 = .ok (.iload 10, 2) := by decide +kernel
theorem d_Law_holds_657 : decode method_24_code 657 = .ok (.if_icmp .le 41, 3) := by decide +kernel
theorem d_Law_holds_660 : decode method_24_code 660 = .ok (.aload_n 0, 1) := by decide +kernel
theorem d_Law_holds_661 : decode method_24_code 661 = .ok (.iconst 3, 1) := by decide +kernel
theorem d_Law_holds_662 : decode method_24_code 662 = .ok (.iload 13, 2) := by decide +kernel
theorem d_Law_holds_664 : decode method_24_code 664 = .ok (.iconst 0, 1) := by decide +kernel
theorem d_Law_holds_665 : decode method_24_code 665 = .ok (.iconst 0, 1) := by decide +kernel
theorem d_Law_holds_666 : decode method_24_code 666 = .ok (.invokestatic 132, 3) := by decide +kernel
theorem d_Law_holds_669 : decode method_24_code 669 = .ok (.aload_n 0, 1) := by decide +kernel
theorem d_Law_holds_670 : decode method_24_code 670 = .ok (.iconst 2, 1) := by decide +kernel
theorem d_Law_holds_671 : decode method_24_code 671 = .ok (.iconst 2, 1) := by decide +kernel
theorem d_Law_holds_672 : decode method_24_code 672 = .ok (.iconst 0, 1) := by decide +kernel
theorem d_Law_holds_673 : decode method_24_code 673 = .ok (.iconst 0, 1) := by decide +kernel
theorem d_Law_holds_674 : decode method_24_code 674 = .ok (.invokestatic 132, 3) := by decide +kernel
theorem d_Law_holds_677 : decode method_24_code 677 = .ok (.if_icmp .ne 21, 3) := by decide +kernel
theorem d_Law_holds_680 : decode method_24_code 680 = .ok (.iload_n 1, 1) := by decide +kernel
theorem d_Law_holds_681 : decode method_24_code 681 = .ok (.iconst 2, 1) := by decide +kernel
theorem d_Law_holds_682 : decode method_24_code 682 = .ok (.if_icmp .ne 16, 3) := by decide +kernel
theorem d_Law_holds_685 : decode method_24_code 685 = .ok (.iload 9, 2) := by decide +kernel
theorem d_Law_holds_687 : decode method_24_code 687 = .ok (.iload 12, 2) := by decide +kernel
theorem d_Law_holds_689 : decode method_24_code 689 = .ok (.iconst 1, 1) := by decide +kernel
theorem d_Law_holds_690 : decode method_24_code 690 = .ok (.iadd, 1) := by decide +kernel
theorem d_Law_holds_691 : decode method_24_code 691 = .ok (.if_icmp .ne 7, 3) := by decide +kernel
theorem d_Law_holds_694 : decode method_24_code 694 = .ok (.iconst 1, 1) := by decide +kernel
theorem d_Law_holds_695 : decode method_24_code 695 = .ok (.goto 4, 3) := by decide +kernel
theorem d_Law_holds_698 : decode method_24_code 698 = .ok (.iconst 0, 1) := by decide +kernel
theorem d_Law_holds_699 : decode method_24_code 699 = .ok (.istore 6, 2) := by decide +kernel
theorem d_Law_holds_701 : decode method_24_code 701 = .ok (.iload 13, 2) := by decide +kernel
theorem d_Law_holds_703 : decode method_24_code 703 = .ok (.istore 10, 2) := by decide +kernel
theorem d_Law_holds_705 : decode method_24_code 705 = .ok (.iinc 12 1, 3) := by decide +kernel
theorem d_Law_holds_708 : decode method_24_code 708 = .ok (.goto (-128), 3) := by decide +kernel
theorem d_Law_holds_711 : decode method_24_code 711 = .ok (.aload_n 0, 1) := by decide +kernel
theorem d_Law_holds_712 : decode method_24_code 712 = .ok (.iconst 2, 1) := by decide +kernel
theorem d_Law_holds_713 : decode method_24_code 713 = .ok (.bipush 9, 2) := by decide +kernel
theorem d_Law_holds_715 : decode method_24_code 715 = .ok (.iconst 0, 1) := by decide +kernel
theorem d_Law_holds_716 : decode method_24_code 716 = .ok (.iconst 0, 1) := by decide +kernel
theorem d_Law_holds_717 : decode method_24_code 717 = .ok (.invokestatic 132, 3) := by decide +kernel
theorem d_Law_holds_720 : decode method_24_code 720 = .ok (.istore 12, 2) := by decide +kernel
theorem d_Law_holds_722 : decode method_24_code 722 = .ok (.iload 6, 2) := by decide +kernel
theorem d_Law_holds_724 : decode method_24_code 724 = .ok (.ifCond .eq 210, 3) := by decide +kernel
theorem d_Law_holds_727 : decode method_24_code 727 = .ok (.iload_n 3, 1) := by decide +kernel
theorem d_Law_holds_728 : decode method_24_code 728 = .ok (.iload_n 1, 1) := by decide +kernel
theorem d_Law_holds_729 : decode method_24_code 729 = .ok (.ifCond .ne 8, 3) := by decide +kernel
theorem d_Law_holds_732 : decode method_24_code 732 = .ok (.bipush 32, 2) := by decide +kernel
theorem d_Law_holds_734 : decode method_24_code 734 = .ok (.goto 4, 3) := by decide +kernel
theorem d_Law_holds_737 : decode method_24_code 737 = .ok (.iload_n 2, 1) := by decide +kernel
theorem d_Law_holds_738 : decode method_24_code 738 = .ok (.if_icmp .ne 196, 3) := by decide +kernel
theorem d_Law_holds_741 : decode method_24_code 741 = .ok (.iload_n 2, 1) := by decide +kernel
theorem d_Law_holds_742 : decode method_24_code 742 = .ok (.iconst 4, 1) := by decide +kernel
theorem d_Law_holds_743 : decode method_24_code 743 = .ok (.iload 4, 2) := by decide +kernel
theorem d_Law_holds_745 : decode method_24_code 745 = .ok (.imul, 1) := by decide +kernel
theorem d_Law_holds_746 : decode method_24_code 746 = .ok (.iload 5, 2) := by decide +kernel
theorem d_Law_holds_748 : decode method_24_code 748 = .ok (.iadd, 1) := by decide +kernel
theorem d_Law_holds_749 : decode method_24_code 749 = .ok (.if_icmp .ne 185, 3) := by decide +kernel
theorem d_Law_holds_752 : decode method_24_code 752 = .ok (.iload 5, 2) := by decide +kernel
theorem d_Law_holds_754 : decode method_24_code 754 = .ok (.iconst 4, 1) := by decide +kernel
theorem d_Law_holds_755 : decode method_24_code 755 = .ok (.if_icmp .ge 179, 3) := by decide +kernel
theorem d_Law_holds_758 : decode method_24_code 758 = .ok (.iload_n 1, 1) := by decide +kernel
theorem d_Law_holds_759 : decode method_24_code 759 = .ok (.iconst 2, 1) := by decide +kernel
theorem d_Law_holds_760 : decode method_24_code 760 = .ok (.if_icmp .ne 7, 3) := by decide +kernel
theorem d_Law_holds_763 : decode method_24_code 763 = .ok (.iconst 1, 1) := by decide +kernel
theorem d_Law_holds_764 : decode method_24_code 764 = .ok (.goto 4, 3) := by decide +kernel
theorem d_Law_holds_767 : decode method_24_code 767 = .ok (.iconst 0, 1) := by decide +kernel
theorem d_Law_holds_768 : decode method_24_code 768 = .ok (.iload 9, 2) := by decide +kernel
theorem d_Law_holds_770 : decode method_24_code 770 = .ok (.ifCond .le 7, 3) := by decide +kernel
theorem d_Law_holds_773 : decode method_24_code 773 = .ok (.iconst 1, 1) := by decide +kernel
theorem d_Law_holds_774 : decode method_24_code 774 = .ok (.goto 4, 3) := by decide +kernel
theorem d_Law_holds_777 : decode method_24_code 777 = .ok (.iconst 0, 1) := by decide +kernel
theorem d_Law_holds_778 : decode method_24_code 778 = .ok (.if_icmp .ne 156, 3) := by decide +kernel
theorem d_Law_holds_781 : decode method_24_code 781 = .ok (.iload_n 1, 1) := by decide +kernel
theorem d_Law_holds_782 : decode method_24_code 782 = .ok (.iconst 2, 1) := by decide +kernel
theorem d_Law_holds_783 : decode method_24_code 783 = .ok (.if_icmp .ne 7, 3) := by decide +kernel
theorem d_Law_holds_786 : decode method_24_code 786 = .ok (.iconst 1, 1) := by decide +kernel
theorem d_Law_holds_787 : decode method_24_code 787 = .ok (.goto 4, 3) := by decide +kernel
theorem d_Law_holds_790 : decode method_24_code 790 = .ok (.iconst 0, 1) := by decide +kernel
theorem d_Law_holds_791 : decode method_24_code 791 = .ok (.iload 11, 2) := by decide +kernel
theorem d_Law_holds_793 : decode method_24_code 793 = .ok (.if_icmp .ne 141, 3) := by decide +kernel
theorem d_Law_holds_796 : decode method_24_code 796 = .ok (.iload_n 1, 1) := by decide +kernel
theorem d_Law_holds_797 : decode method_24_code 797 = .ok (.iconst 2, 1) := by decide +kernel
theorem d_Law_holds_798 : decode method_24_code 798 = .ok (.if_icmp .ne 10, 3) := by decide +kernel
theorem d_Law_holds_801 : decode method_24_code 801 = .ok (.iload 4, 2) := by decide +kernel
theorem d_Law_holds_803 : decode method_24_code 803 = .ok (.bipush 8, 2) := by decide +kernel
theorem d_Law_holds_805 : decode method_24_code 805 = .ok (.if_icmp .ge 129, 3) := by decide +kernel
theorem d_Law_holds_808 : decode method_24_code 808 = .ok (.iload 8, 2) := by decide +kernel
theorem d_Law_holds_810 : decode method_24_code 810 = .ok (.iload 12, 2) := by decide +kernel
theorem d_Law_holds_812 : decode method_24_code 812 = .ok (.if_icmp .gt 122, 3) := by decide +kernel
theorem d_Law_holds_815 : decode method_24_code 815 = .ok (.aload_n 0, 1) := by decide +kernel
theorem d_Law_holds_816 : decode method_24_code 816 = .ok (.iconst 2, 1) := by decide +kernel
theorem d_Law_holds_817 : decode method_24_code 817 = .ok (.bipush 10, 2) := by decide +kernel
theorem d_Law_holds_819 : decode method_24_code 819 = .ok (.iconst 0, 1) := by decide +kernel
theorem d_Law_holds_820 : decode method_24_code 820 = .ok (.iconst 0, 1) := by decide +kernel
theorem d_Law_holds_821 : decode method_24_code 821 = .ok (.invokestatic 132, 3) := by decide +kernel
theorem d_Law_holds_824 : decode method_24_code 824 = .ok (.iload 12, 2) := by decide +kernel
theorem d_Law_holds_826 : decode method_24_code 826 = .ok (.if_icmp .gt 108, 3) := by decide +kernel
theorem d_Law_holds_829 : decode method_24_code 829 = .ok (.iload 7, 2) := by decide +kernel
theorem d_Law_holds_831 : decode method_24_code 831 = .ok (.iload_n 2, 1) := by decide +kernel
theorem d_Law_holds_832 : decode method_24_code 832 = .ok (.if_icmp .gt 102, 3) := by decide +kernel
theorem d_Law_holds_835 : decode method_24_code 835 = .ok (.aload_n 0, 1) := by decide +kernel
theorem d_Law_holds_836 : decode method_24_code 836 = .ok (.iconst 2, 1) := by decide +kernel
theorem d_Law_holds_837 : decode method_24_code 837 = .ok (.iconst 4, 1) := by decide +kernel
theorem d_Law_holds_838 : decode method_24_code 838 = .ok (.iconst 0, 1) := by decide +kernel
theorem d_Law_holds_839 : decode method_24_code 839 = .ok (.iconst 0, 1) := by decide +kernel
theorem d_Law_holds_840 : decode method_24_code 840 = .ok (.invokestatic 132, 3) := by decide +kernel
theorem d_Law_holds_843 : decode method_24_code 843 = .ok (.iconst (-1), 1) := by decide +kernel
theorem d_Law_holds_844 : decode method_24_code 844 = .ok (.if_icmp .ne 7, 3) := by decide +kernel
theorem d_Law_holds_847 : decode method_24_code 847 = .ok (.iconst 1, 1) := by decide +kernel
theorem d_Law_holds_848 : decode method_24_code 848 = .ok (.goto 4, 3) := by decide +kernel
theorem d_Law_holds_851 : decode method_24_code 851 = .ok (.iconst 0, 1) := by decide +kernel
theorem d_Law_holds_852 : decode method_24_code 852 = .ok (.iload_n 1, 1) := by decide +kernel
theorem d_Law_holds_853 : decode method_24_code 853 = .ok (.iconst 2, 1) := by decide +kernel
theorem d_Law_holds_854 : decode method_24_code 854 = .ok (.if_icmp .lt 14, 3) := by decide +kernel
theorem d_Law_holds_857 : decode method_24_code 857 = .ok (.aload_n 0, 1) := by decide +kernel
theorem d_Law_holds_858 : decode method_24_code 858 = .ok (.iconst 2, 1) := by decide +kernel
theorem d_Law_holds_859 : decode method_24_code 859 = .ok (.iconst 3, 1) := by decide +kernel
theorem d_Law_holds_860 : decode method_24_code 860 = .ok (.iconst 0, 1) := by decide +kernel
theorem d_Law_holds_861 : decode method_24_code 861 = .ok (.iconst 0, 1) := by decide +kernel
theorem d_Law_holds_862 : decode method_24_code 862 = .ok (.invokestatic 132, 3) := by decide +kernel
theorem d_Law_holds_865 : decode method_24_code 865 = .ok (.ifCond .ne 7, 3) := by decide +kernel
theorem d_Law_holds_868 : decode method_24_code 868 = .ok (.iconst 1, 1) := by decide +kernel
theorem d_Law_holds_869 : decode method_24_code 869 = .ok (.goto 4, 3) := by decide +kernel
theorem d_Law_holds_872 : decode method_24_code 872 = .ok (.iconst 0, 1) := by decide +kernel
theorem d_Law_holds_873 : decode method_24_code 873 = .ok (.if_icmp .ne 61, 3) := by decide +kernel
theorem d_Law_holds_876 : decode method_24_code 876 = .ok (.aload_n 0, 1) := by decide +kernel
theorem d_Law_holds_877 : decode method_24_code 877 = .ok (.iconst 2, 1) := by decide +kernel
theorem d_Law_holds_878 : decode method_24_code 878 = .ok (.iconst 2, 1) := by decide +kernel
theorem d_Law_holds_879 : decode method_24_code 879 = .ok (.iconst 0, 1) := by decide +kernel
theorem d_Law_holds_880 : decode method_24_code 880 = .ok (.iconst 0, 1) := by decide +kernel
theorem d_Law_holds_881 : decode method_24_code 881 = .ok (.invokestatic 132, 3) := by decide +kernel
theorem d_Law_holds_884 : decode method_24_code 884 = .ok (.iconst (-1), 1) := by decide +kernel
theorem d_Law_holds_885 : decode method_24_code 885 = .ok (.if_icmp .ne 7, 3) := by decide +kernel
theorem d_Law_holds_888 : decode method_24_code 888 = .ok (.iconst 1, 1) := by decide +kernel
theorem d_Law_holds_889 : decode method_24_code 889 = .ok (.goto 4, 3) := by decide +kernel
theorem d_Law_holds_892 : decode method_24_code 892 = .ok (.iconst 0, 1) := by decide +kernel
theorem d_Law_holds_893 : decode method_24_code 893 = .ok (.iload_n 1, 1) := by decide +kernel
theorem d_Law_holds_894 : decode method_24_code 894 = .ok (.iconst 3, 1) := by decide +kernel
theorem d_Law_holds_895 : decode method_24_code 895 = .ok (.irem, 1) := by decide +kernel
theorem d_Law_holds_896 : decode method_24_code 896 = .ok (.ifCond .ne 7, 3) := by decide +kernel
theorem d_Law_holds_899 : decode method_24_code 899 = .ok (.iconst 1, 1) := by decide +kernel
theorem d_Law_holds_900 : decode method_24_code 900 = .ok (.goto 4, 3) := by decide +kernel
theorem d_Law_holds_903 : decode method_24_code 903 = .ok (.iconst 0, 1) := by decide +kernel
theorem d_Law_holds_904 : decode method_24_code 904 = .ok (.if_icmp .ne 30, 3) := by decide +kernel
theorem d_Law_holds_907 : decode method_24_code 907 = .ok (.iload_n 1, 1) := by decide +kernel
theorem d_Law_holds_908 : decode method_24_code 908 = .ok (.iconst 3, 1) := by decide +kernel
theorem d_Law_holds_909 : decode method_24_code 909 = .ok (.if_icmp .ne 21, 3) := by decide +kernel
theorem d_Law_holds_912 : decode method_24_code 912 = .ok (.iload 4, 2) := by decide +kernel
theorem d_Law_holds_914 : decode method_24_code 914 = .ok (.bipush 8, 2) := by decide +kernel
theorem d_Law_holds_916 : decode method_24_code 916 = .ok (.if_icmp .eq 14, 3) := by decide +kernel
theorem d_Law_holds_919 : decode method_24_code 919 = .ok (.aload_n 0, 1) := by decide +kernel
theorem d_Law_holds_920 : decode method_24_code 920 = .ok (.iconst 2, 1) := by decide +kernel
theorem d_Law_holds_921 : decode method_24_code 921 = .ok (.iconst 3, 1) := by decide +kernel
theorem d_Law_holds_922 : decode method_24_code 922 = .ok (.iconst 0, 1) := by decide +kernel
theorem d_Law_holds_923 : decode method_24_code 923 = .ok (.iconst 0, 1) := by decide +kernel
theorem d_Law_holds_924 : decode method_24_code 924 = .ok (.invokestatic 132, 3) := by decide +kernel
theorem d_Law_holds_927 : decode method_24_code 927 = .ok (.ifCond .ne 7, 3) := by decide +kernel
theorem d_Law_holds_930 : decode method_24_code 930 = .ok (.iconst 1, 1) := by decide +kernel
theorem d_Law_holds_931 : decode method_24_code 931 = .ok (.goto 4, 3) := by decide +kernel
theorem d_Law_holds_934 : decode method_24_code 934 = .ok (.iconst 0, 1) := by decide +kernel
theorem d_Law_holds_935 : decode method_24_code 935 = .ok (.ireturn, 1) := by decide +kernel
abbrev k_Law_holds : gMD := (⟨"DropSignalsLaw", "holds", "(LDropSignals;)Z"⟩, method_24_code, 18, (some .boolean))
theorem w_945 : Cond.static ⟨"DropSignalsLaw", "holds", "(LDropSignals;)Z"⟩ ∈ gWs := gWs_in (i := 945) (by decide +kernel) rfl
set_option maxRecDepth 100000 in
theorem ca_Law_holds : gCaS k_Law_holds 1 := ⟨⟨gWs_in (i := 946) rfl rfl, w_19, by decide, by decide, by decide +kernel⟩, w_945⟩
noncomputable def f_Law_holds_b190_55 (M : gMem) (x1 : Int32) (x2 : Int32) (x3 : Int32) (x4 : Int32) (x5 : Int32) (x7 : Int32) (s0 : Int32) : Option ((Int32 × Int32 × Int32 × Int32 × gMem) ⊕ (Int32 × Int32 × Int32 × Int32 × gMem)) :=
  some (.inl (x2, x3, s0, (x7 + 1), M))
theorem t_Law_holds_b190_55 {l : Launch} {ε : gEnv} (hl0 : l.stackTraces = false) (hX : gXw ε) {R : Room} {T : gTT} {Z : gZZ} {k0 n0 K ka kb : Nat} (hT : gTok T) (hR : gRm R k0 n0 K 155 6121) (hk : ka + 0 ≤ kb) (hb : kb ≤ K) (M : gMem) (x1 : Int32) (x2 : Int32) (x3 : Int32) (x4 : Int32) (x5 : Int32) (x7 : Int32) (s0 : Int32) (res : ((Int32 × Int32 × Int32 × Int32 × gMem) ⊕ (Int32 × Int32 × Int32 × Int32 × gMem))) (h : f_Law_holds_b190_55 M x1 x2 x3 x4 x5 x7 s0 = some res) (k1 : ∀ s0 : (Int32 × Int32 × Int32 × Int32 × gMem), res = .inl s0 → gGo l ε k_Law_holds R (gFg T Z k0 n0 kb) 55 [(0, .ref (ε.2.2.1 18 0)), (1, .int x1), (2, .int s0.1), (3, .int s0.2.1), (4, .int x4), (5, .int x5), (6, .int s0.2.2.1), (7, .int s0.2.2.2.1)] [] s0.2.2.2.2) (k2 : ∀ s0 : (Int32 × Int32 × Int32 × Int32 × gMem), res = .inr s0 → gGo l ε k_Law_holds R (gFg T Z k0 n0 kb) 198 [(0, .ref (ε.2.2.1 18 0)), (1, .int x1), (2, .int s0.1), (3, .int s0.2.1), (4, .int x4), (5, .int x5), (6, .int s0.2.2.1), (7, .int s0.2.2.2.1)] [] s0.2.2.2.2) : gGo l ε k_Law_holds R (gFg T Z k0 n0 ka) 190 [(0, .ref (ε.2.2.1 18 0)), (1, .int x1), (2, .int x2), (3, .int x3), (4, .int x4), (5, .int x5), (7, .int x7)] [.int s0] M := by
  unfold f_Law_holds_b190_55 at h
  refine g_istore (L' := [(6, .int s0), (0, .ref (ε.2.2.1 18 0)), (1, .int x1), (2, .int x2), (3, .int x3), (4, .int x4), (5, .int x5), (7, .int x7)]) d_Law_holds_190 (by decide) rfl ?_
  refine g_iinc (v := (x7 + 1)) (L' := [(7, .int (x7 + 1)), (6, .int s0), (0, .ref (ε.2.2.1 18 0)), (1, .int x1), (2, .int x2), (3, .int x3), (4, .int x4), (5, .int x5)]) d_Law_holds_192 (j := 7) rfl rfl (by decide) rfl ?_
  refine g_goto (tgt := 55) d_Law_holds_195 (by decide) ?_
  refine gGo_sub [2, 3, 4, 5, 6, 7, 1, 0] rfl ?_
  obtain rfl := Option.some.inj h
  exact g_useK hR (gLe0 hk) hb (k1 (x2, x3, s0, (x7 + 1), M) rfl)
noncomputable def f_Law_holds_b189_55 (M : gMem) (x1 : Int32) (x2 : Int32) (x3 : Int32) (x4 : Int32) (x5 : Int32) (x7 : Int32) : Option ((Int32 × Int32 × Int32 × Int32 × gMem) ⊕ (Int32 × Int32 × Int32 × Int32 × gMem)) :=
  f_Law_holds_b190_55 M x1 x2 x3 x4 x5 x7 0
theorem t_Law_holds_b189_55 {l : Launch} {ε : gEnv} (hl0 : l.stackTraces = false) (hX : gXw ε) {R : Room} {T : gTT} {Z : gZZ} {k0 n0 K ka kb : Nat} (hT : gTok T) (hR : gRm R k0 n0 K 155 6121) (hk : ka + 0 ≤ kb) (hb : kb ≤ K) (M : gMem) (x1 : Int32) (x2 : Int32) (x3 : Int32) (x4 : Int32) (x5 : Int32) (x7 : Int32) (res : ((Int32 × Int32 × Int32 × Int32 × gMem) ⊕ (Int32 × Int32 × Int32 × Int32 × gMem))) (h : f_Law_holds_b189_55 M x1 x2 x3 x4 x5 x7 = some res) (k1 : ∀ s0 : (Int32 × Int32 × Int32 × Int32 × gMem), res = .inl s0 → gGo l ε k_Law_holds R (gFg T Z k0 n0 kb) 55 [(0, .ref (ε.2.2.1 18 0)), (1, .int x1), (2, .int s0.1), (3, .int s0.2.1), (4, .int x4), (5, .int x5), (6, .int s0.2.2.1), (7, .int s0.2.2.2.1)] [] s0.2.2.2.2) (k2 : ∀ s0 : (Int32 × Int32 × Int32 × Int32 × gMem), res = .inr s0 → gGo l ε k_Law_holds R (gFg T Z k0 n0 kb) 198 [(0, .ref (ε.2.2.1 18 0)), (1, .int x1), (2, .int s0.1), (3, .int s0.2.1), (4, .int x4), (5, .int x5), (6, .int s0.2.2.1), (7, .int s0.2.2.2.1)] [] s0.2.2.2.2) : gGo l ε k_Law_holds R (gFg T Z k0 n0 ka) 189 [(0, .ref (ε.2.2.1 18 0)), (1, .int x1), (2, .int x2), (3, .int x3), (4, .int x4), (5, .int x5), (7, .int x7)] [] M := by
  unfold f_Law_holds_b189_55 at h
  refine g_iconst (v := 0) d_Law_holds_189 (by decide) ?_
  exact t_Law_holds_b190_55 hl0 hX hT hR (gLe hk (Nat.le_of_ble_eq_true rfl)) hb M x1 x2 x3 x4 x5 x7 0 _ h k1 k2
noncomputable def f_Law_holds_b185_55 (M : gMem) (x1 : Int32) (x2 : Int32) (x3 : Int32) (x4 : Int32) (x5 : Int32) (x7 : Int32) : Option ((Int32 × Int32 × Int32 × Int32 × gMem) ⊕ (Int32 × Int32 × Int32 × Int32 × gMem)) :=
  f_Law_holds_b190_55 M x1 x2 x3 x4 x5 x7 1
theorem t_Law_holds_b185_55 {l : Launch} {ε : gEnv} (hl0 : l.stackTraces = false) (hX : gXw ε) {R : Room} {T : gTT} {Z : gZZ} {k0 n0 K ka kb : Nat} (hT : gTok T) (hR : gRm R k0 n0 K 155 6121) (hk : ka + 0 ≤ kb) (hb : kb ≤ K) (M : gMem) (x1 : Int32) (x2 : Int32) (x3 : Int32) (x4 : Int32) (x5 : Int32) (x7 : Int32) (res : ((Int32 × Int32 × Int32 × Int32 × gMem) ⊕ (Int32 × Int32 × Int32 × Int32 × gMem))) (h : f_Law_holds_b185_55 M x1 x2 x3 x4 x5 x7 = some res) (k1 : ∀ s0 : (Int32 × Int32 × Int32 × Int32 × gMem), res = .inl s0 → gGo l ε k_Law_holds R (gFg T Z k0 n0 kb) 55 [(0, .ref (ε.2.2.1 18 0)), (1, .int x1), (2, .int s0.1), (3, .int s0.2.1), (4, .int x4), (5, .int x5), (6, .int s0.2.2.1), (7, .int s0.2.2.2.1)] [] s0.2.2.2.2) (k2 : ∀ s0 : (Int32 × Int32 × Int32 × Int32 × gMem), res = .inr s0 → gGo l ε k_Law_holds R (gFg T Z k0 n0 kb) 198 [(0, .ref (ε.2.2.1 18 0)), (1, .int x1), (2, .int s0.1), (3, .int s0.2.1), (4, .int x4), (5, .int x5), (6, .int s0.2.2.1), (7, .int s0.2.2.2.1)] [] s0.2.2.2.2) : gGo l ε k_Law_holds R (gFg T Z k0 n0 ka) 185 [(0, .ref (ε.2.2.1 18 0)), (1, .int x1), (2, .int x2), (3, .int x3), (4, .int x4), (5, .int x5), (7, .int x7)] [] M := by
  unfold f_Law_holds_b185_55 at h
  refine g_iconst (v := 1) d_Law_holds_185 (by decide) ?_
  refine g_goto (tgt := 190) d_Law_holds_186 (by decide) ?_
  exact t_Law_holds_b190_55 hl0 hX hT hR (gLe hk (Nat.le_of_ble_eq_true rfl)) hb M x1 x2 x3 x4 x5 x7 1 _ h k1 k2
noncomputable def f_Law_holds_b148_55 (M : gMem) (x1 : Int32) (x2 : Int32) (x3 : Int32) (x4 : Int32) (x5 : Int32) (x7 : Int32) (x8 : Int32) (x9 : Int32) (x10 : Int32) (s0 : Int32) (s1 : Int32) : Option ((Int32 × Int32 × Int32 × Int32 × gMem) ⊕ (Int32 × Int32 × Int32 × Int32 × gMem)) :=
  if s1 = s0 then
    if x10 = (-1) then
      if x8 = x9 then
        f_Law_holds_b185_55 M x1 x2 x3 x4 x5 x7
      else
        f_Law_holds_b189_55 M x1 x2 x3 x4 x5 x7
    else
      if x8 = (-1) then
        if 32 ≤ x10 then
          f_Law_holds_b189_55 M x1 x2 x3 x4 x5 x7
        else
          if x1 < 2 then
            f_Law_holds_b189_55 M x1 x2 x3 x4 x5 x7
          else
            f_Law_holds_b185_55 M x1 x2 x3 x4 x5 x7
      else
        f_Law_holds_b189_55 M x1 x2 x3 x4 x5 x7
  else
    f_Law_holds_b189_55 M x1 x2 x3 x4 x5 x7
theorem t_Law_holds_b148_55 {l : Launch} {ε : gEnv} (hl0 : l.stackTraces = false) (hX : gXw ε) {R : Room} {T : gTT} {Z : gZZ} {k0 n0 K ka kb : Nat} (hT : gTok T) (hR : gRm R k0 n0 K 155 6121) (hk : ka + 0 ≤ kb) (hb : kb ≤ K) (M : gMem) (x1 : Int32) (x2 : Int32) (x3 : Int32) (x4 : Int32) (x5 : Int32) (x7 : Int32) (x8 : Int32) (x9 : Int32) (x10 : Int32) (s0 : Int32) (s1 : Int32) (res : ((Int32 × Int32 × Int32 × Int32 × gMem) ⊕ (Int32 × Int32 × Int32 × Int32 × gMem))) (h : f_Law_holds_b148_55 M x1 x2 x3 x4 x5 x7 x8 x9 x10 s0 s1 = some res) (k1 : ∀ s0 : (Int32 × Int32 × Int32 × Int32 × gMem), res = .inl s0 → gGo l ε k_Law_holds R (gFg T Z k0 n0 kb) 55 [(0, .ref (ε.2.2.1 18 0)), (1, .int x1), (2, .int s0.1), (3, .int s0.2.1), (4, .int x4), (5, .int x5), (6, .int s0.2.2.1), (7, .int s0.2.2.2.1)] [] s0.2.2.2.2) (k2 : ∀ s0 : (Int32 × Int32 × Int32 × Int32 × gMem), res = .inr s0 → gGo l ε k_Law_holds R (gFg T Z k0 n0 kb) 198 [(0, .ref (ε.2.2.1 18 0)), (1, .int x1), (2, .int s0.1), (3, .int s0.2.1), (4, .int x4), (5, .int x5), (6, .int s0.2.2.1), (7, .int s0.2.2.2.1)] [] s0.2.2.2.2) : gGo l ε k_Law_holds R (gFg T Z k0 n0 ka) 148 [(0, .ref (ε.2.2.1 18 0)), (1, .int x1), (2, .int x2), (3, .int x3), (4, .int x4), (5, .int x5), (7, .int x7), (8, .int x8), (9, .int x9), (10, .int x10)] [.int s0, .int s1] M := by
  unfold f_Law_holds_b148_55 at h
  refine g_icmp_ne (tgt := 189) d_Law_holds_148 (by decide) (fun c12 => ?_) (fun c12 => ?_)
  · rw [if_neg c12] at h
    refine gGo_sub [0, 1, 2, 3, 4, 5, 6] rfl ?_
    exact t_Law_holds_b189_55 hl0 hX hT hR (gLe hk (Nat.le_of_ble_eq_true rfl)) hb M x1 x2 x3 x4 x5 x7 _ h k1 k2
  · rw [if_pos c12] at h
    refine g_iload d_Law_holds_151 9 rfl ?_
    refine g_iconst (v := -1) d_Law_holds_153 (by decide) ?_
    refine g_icmp_ne (tgt := 167) d_Law_holds_154 (by decide) (fun c11 => ?_) (fun c11 => ?_)
    · rw [if_neg c11] at h
      refine g_iload d_Law_holds_167 7 rfl ?_
      refine g_iconst (v := -1) d_Law_holds_169 (by decide) ?_
      refine g_icmp_ne (tgt := 189) d_Law_holds_170 (by decide) (fun c9 => ?_) (fun c9 => ?_)
      · rw [if_neg c9] at h
        refine gGo_sub [0, 1, 2, 3, 4, 5, 6] rfl ?_
        exact t_Law_holds_b189_55 hl0 hX hT hR (gLe hk (Nat.le_of_ble_eq_true rfl)) hb M x1 x2 x3 x4 x5 x7 _ h k1 k2
      · rw [if_pos c9] at h
        refine g_iload d_Law_holds_173 9 rfl ?_
        refine g_bipush (v := 32) d_Law_holds_175 (by decide) ?_
        refine g_icmp_ge (tgt := 189) d_Law_holds_177 (by decide) (fun c8 => ?_) (fun c8 => ?_)
        · rw [if_pos c8] at h
          refine gGo_sub [0, 1, 2, 3, 4, 5, 6] rfl ?_
          exact t_Law_holds_b189_55 hl0 hX hT hR (gLe hk (Nat.le_of_ble_eq_true rfl)) hb M x1 x2 x3 x4 x5 x7 _ h k1 k2
        · rw [if_neg c8] at h
          refine g_iload_n d_Law_holds_180 rfl 1 rfl ?_
          refine g_iconst (v := 2) d_Law_holds_181 (by decide) ?_
          refine g_icmp_lt (tgt := 189) d_Law_holds_182 (by decide) (fun c7 => ?_) (fun c7 => ?_)
          · rw [if_pos c7] at h
            refine gGo_sub [0, 1, 2, 3, 4, 5, 6] rfl ?_
            exact t_Law_holds_b189_55 hl0 hX hT hR (gLe hk (Nat.le_of_ble_eq_true rfl)) hb M x1 x2 x3 x4 x5 x7 _ h k1 k2
          · rw [if_neg c7] at h
            refine gGo_sub [0, 1, 2, 3, 4, 5, 6] rfl ?_
            exact t_Law_holds_b185_55 hl0 hX hT hR (gLe hk (Nat.le_of_ble_eq_true rfl)) hb M x1 x2 x3 x4 x5 x7 _ h k1 k2
    · rw [if_pos c11] at h
      refine g_iload d_Law_holds_157 7 rfl ?_
      refine g_iload d_Law_holds_159 8 rfl ?_
      refine g_icmp_ne (tgt := 189) d_Law_holds_161 (by decide) (fun c10 => ?_) (fun c10 => ?_)
      · rw [if_neg c10] at h
        refine gGo_sub [0, 1, 2, 3, 4, 5, 6] rfl ?_
        exact t_Law_holds_b189_55 hl0 hX hT hR (gLe hk (Nat.le_of_ble_eq_true rfl)) hb M x1 x2 x3 x4 x5 x7 _ h k1 k2
      · rw [if_pos c10] at h
        refine g_goto (tgt := 185) d_Law_holds_164 (by decide) ?_
        refine gGo_sub [0, 1, 2, 3, 4, 5, 6] rfl ?_
        exact t_Law_holds_b185_55 hl0 hX hT hR (gLe hk (Nat.le_of_ble_eq_true rfl)) hb M x1 x2 x3 x4 x5 x7 _ h k1 k2
noncomputable def f_Law_holds_b137_55 (M : gMem) (x1 : Int32) (x2 : Int32) (x3 : Int32) (x4 : Int32) (x5 : Int32) (x7 : Int32) (x8 : Int32) (x9 : Int32) (x10 : Int32) (s0 : Int32) : Option ((Int32 × Int32 × Int32 × Int32 × gMem) ⊕ (Int32 × Int32 × Int32 × Int32 × gMem)) :=
  if x9 = (-1) then
    f_Law_holds_b148_55 M x1 x2 x3 x4 x5 x7 x8 x9 x10 1 s0
  else
    f_Law_holds_b148_55 M x1 x2 x3 x4 x5 x7 x8 x9 x10 0 s0
theorem t_Law_holds_b137_55 {l : Launch} {ε : gEnv} (hl0 : l.stackTraces = false) (hX : gXw ε) {R : Room} {T : gTT} {Z : gZZ} {k0 n0 K ka kb : Nat} (hT : gTok T) (hR : gRm R k0 n0 K 155 6121) (hk : ka + 0 ≤ kb) (hb : kb ≤ K) (M : gMem) (x1 : Int32) (x2 : Int32) (x3 : Int32) (x4 : Int32) (x5 : Int32) (x7 : Int32) (x8 : Int32) (x9 : Int32) (x10 : Int32) (s0 : Int32) (res : ((Int32 × Int32 × Int32 × Int32 × gMem) ⊕ (Int32 × Int32 × Int32 × Int32 × gMem))) (h : f_Law_holds_b137_55 M x1 x2 x3 x4 x5 x7 x8 x9 x10 s0 = some res) (k1 : ∀ s0 : (Int32 × Int32 × Int32 × Int32 × gMem), res = .inl s0 → gGo l ε k_Law_holds R (gFg T Z k0 n0 kb) 55 [(0, .ref (ε.2.2.1 18 0)), (1, .int x1), (2, .int s0.1), (3, .int s0.2.1), (4, .int x4), (5, .int x5), (6, .int s0.2.2.1), (7, .int s0.2.2.2.1)] [] s0.2.2.2.2) (k2 : ∀ s0 : (Int32 × Int32 × Int32 × Int32 × gMem), res = .inr s0 → gGo l ε k_Law_holds R (gFg T Z k0 n0 kb) 198 [(0, .ref (ε.2.2.1 18 0)), (1, .int x1), (2, .int s0.1), (3, .int s0.2.1), (4, .int x4), (5, .int x5), (6, .int s0.2.2.1), (7, .int s0.2.2.2.1)] [] s0.2.2.2.2) : gGo l ε k_Law_holds R (gFg T Z k0 n0 ka) 137 [(0, .ref (ε.2.2.1 18 0)), (1, .int x1), (2, .int x2), (3, .int x3), (4, .int x4), (5, .int x5), (7, .int x7), (8, .int x8), (9, .int x9), (10, .int x10)] [.int s0] M := by
  unfold f_Law_holds_b137_55 at h
  refine g_iload d_Law_holds_137 8 rfl ?_
  refine g_iconst (v := -1) d_Law_holds_139 (by decide) ?_
  refine g_icmp_ne (tgt := 147) d_Law_holds_140 (by decide) (fun c13 => ?_) (fun c13 => ?_)
  · rw [if_neg c13] at h
    refine g_iconst (v := 0) d_Law_holds_147 (by decide) ?_
    exact t_Law_holds_b148_55 hl0 hX hT hR (gLe hk (Nat.le_of_ble_eq_true rfl)) hb M x1 x2 x3 x4 x5 x7 x8 x9 x10 0 s0 _ h k1 k2
  · rw [if_pos c13] at h
    refine g_iconst (v := 1) d_Law_holds_143 (by decide) ?_
    refine g_goto (tgt := 148) d_Law_holds_144 (by decide) ?_
    exact t_Law_holds_b148_55 hl0 hX hT hR (gLe hk (Nat.le_of_ble_eq_true rfl)) hb M x1 x2 x3 x4 x5 x7 x8 x9 x10 1 s0 _ h k1 k2
noncomputable def f_Law_holds_b126_55 (M : gMem) (x1 : Int32) (x3 : Int32) (x4 : Int32) (x5 : Int32) (x7 : Int32) (x8 : Int32) (x9 : Int32) (x10 : Int32) (s0 : Int32) (s1 : Int32) : Option ((Int32 × Int32 × Int32 × Int32 × gMem) ⊕ (Int32 × Int32 × Int32 × Int32 × gMem)) :=
  if x1 = 0 then
    f_Law_holds_b137_55 M x1 (s1 + s0) x3 x4 x5 x7 x8 x9 x10 1
  else
    f_Law_holds_b137_55 M x1 (s1 + s0) x3 x4 x5 x7 x8 x9 x10 0
theorem t_Law_holds_b126_55 {l : Launch} {ε : gEnv} (hl0 : l.stackTraces = false) (hX : gXw ε) {R : Room} {T : gTT} {Z : gZZ} {k0 n0 K ka kb : Nat} (hT : gTok T) (hR : gRm R k0 n0 K 155 6121) (hk : ka + 0 ≤ kb) (hb : kb ≤ K) (M : gMem) (x1 : Int32) (x3 : Int32) (x4 : Int32) (x5 : Int32) (x7 : Int32) (x8 : Int32) (x9 : Int32) (x10 : Int32) (s0 : Int32) (s1 : Int32) (res : ((Int32 × Int32 × Int32 × Int32 × gMem) ⊕ (Int32 × Int32 × Int32 × Int32 × gMem))) (h : f_Law_holds_b126_55 M x1 x3 x4 x5 x7 x8 x9 x10 s0 s1 = some res) (k1 : ∀ s0 : (Int32 × Int32 × Int32 × Int32 × gMem), res = .inl s0 → gGo l ε k_Law_holds R (gFg T Z k0 n0 kb) 55 [(0, .ref (ε.2.2.1 18 0)), (1, .int x1), (2, .int s0.1), (3, .int s0.2.1), (4, .int x4), (5, .int x5), (6, .int s0.2.2.1), (7, .int s0.2.2.2.1)] [] s0.2.2.2.2) (k2 : ∀ s0 : (Int32 × Int32 × Int32 × Int32 × gMem), res = .inr s0 → gGo l ε k_Law_holds R (gFg T Z k0 n0 kb) 198 [(0, .ref (ε.2.2.1 18 0)), (1, .int x1), (2, .int s0.1), (3, .int s0.2.1), (4, .int x4), (5, .int x5), (6, .int s0.2.2.1), (7, .int s0.2.2.2.1)] [] s0.2.2.2.2) : gGo l ε k_Law_holds R (gFg T Z k0 n0 ka) 126 [(0, .ref (ε.2.2.1 18 0)), (1, .int x1), (3, .int x3), (4, .int x4), (5, .int x5), (7, .int x7), (8, .int x8), (9, .int x9), (10, .int x10)] [.int s0, .int s1] M := by
  unfold f_Law_holds_b126_55 at h
  refine g_iadd d_Law_holds_126 ?_
  refine g_istore_n (L' := [(2, .int (s1 + s0)), (0, .ref (ε.2.2.1 18 0)), (1, .int x1), (3, .int x3), (4, .int x4), (5, .int x5), (7, .int x7), (8, .int x8), (9, .int x9), (10, .int x10)]) d_Law_holds_127 rfl (by decide) rfl ?_
  refine g_iload_n d_Law_holds_128 rfl 2 rfl ?_
  refine g_if_ne (tgt := 136) d_Law_holds_129 (by decide) (fun c14 => ?_) (fun c14 => ?_)
  · rw [if_neg c14] at h
    refine g_iconst (v := 0) d_Law_holds_136 (by decide) ?_
    refine gGo_sub [1, 2, 0, 3, 4, 5, 6, 7, 8, 9] rfl ?_
    exact t_Law_holds_b137_55 hl0 hX hT hR (gLe hk (Nat.le_of_ble_eq_true rfl)) hb M x1 (s1 + s0) x3 x4 x5 x7 x8 x9 x10 0 _ h k1 k2
  · rw [if_pos c14] at h
    refine g_iconst (v := 1) d_Law_holds_132 (by decide) ?_
    refine g_goto (tgt := 137) d_Law_holds_133 (by decide) ?_
    refine gGo_sub [1, 2, 0, 3, 4, 5, 6, 7, 8, 9] rfl ?_
    exact t_Law_holds_b137_55 hl0 hX hT hR (gLe hk (Nat.le_of_ble_eq_true rfl)) hb M x1 (s1 + s0) x3 x4 x5 x7 x8 x9 x10 1 _ h k1 k2
noncomputable def f_Law_holds_b112_55 (M : gMem) (x1 : Int32) (x2 : Int32) (x4 : Int32) (x5 : Int32) (x7 : Int32) (x8 : Int32) (x9 : Int32) (x10 : Int32) (s0 : Int32) (s1 : Int32) : Option ((Int32 × Int32 × Int32 × Int32 × gMem) ⊕ (Int32 × Int32 × Int32 × Int32 × gMem)) :=
  if x10 = (-1) then
    f_Law_holds_b126_55 M x1 (s1 + s0) x4 x5 x7 x8 x9 x10 0 x2
  else
    f_Law_holds_b126_55 M x1 (s1 + s0) x4 x5 x7 x8 x9 x10 1 x2
theorem t_Law_holds_b112_55 {l : Launch} {ε : gEnv} (hl0 : l.stackTraces = false) (hX : gXw ε) {R : Room} {T : gTT} {Z : gZZ} {k0 n0 K ka kb : Nat} (hT : gTok T) (hR : gRm R k0 n0 K 155 6121) (hk : ka + 0 ≤ kb) (hb : kb ≤ K) (M : gMem) (x1 : Int32) (x2 : Int32) (x4 : Int32) (x5 : Int32) (x7 : Int32) (x8 : Int32) (x9 : Int32) (x10 : Int32) (s0 : Int32) (s1 : Int32) (res : ((Int32 × Int32 × Int32 × Int32 × gMem) ⊕ (Int32 × Int32 × Int32 × Int32 × gMem))) (h : f_Law_holds_b112_55 M x1 x2 x4 x5 x7 x8 x9 x10 s0 s1 = some res) (k1 : ∀ s0 : (Int32 × Int32 × Int32 × Int32 × gMem), res = .inl s0 → gGo l ε k_Law_holds R (gFg T Z k0 n0 kb) 55 [(0, .ref (ε.2.2.1 18 0)), (1, .int x1), (2, .int s0.1), (3, .int s0.2.1), (4, .int x4), (5, .int x5), (6, .int s0.2.2.1), (7, .int s0.2.2.2.1)] [] s0.2.2.2.2) (k2 : ∀ s0 : (Int32 × Int32 × Int32 × Int32 × gMem), res = .inr s0 → gGo l ε k_Law_holds R (gFg T Z k0 n0 kb) 198 [(0, .ref (ε.2.2.1 18 0)), (1, .int x1), (2, .int s0.1), (3, .int s0.2.1), (4, .int x4), (5, .int x5), (6, .int s0.2.2.1), (7, .int s0.2.2.2.1)] [] s0.2.2.2.2) : gGo l ε k_Law_holds R (gFg T Z k0 n0 ka) 112 [(0, .ref (ε.2.2.1 18 0)), (1, .int x1), (2, .int x2), (4, .int x4), (5, .int x5), (7, .int x7), (8, .int x8), (9, .int x9), (10, .int x10)] [.int s0, .int s1] M := by
  unfold f_Law_holds_b112_55 at h
  refine g_iadd d_Law_holds_112 ?_
  refine g_istore_n (L' := [(3, .int (s1 + s0)), (0, .ref (ε.2.2.1 18 0)), (1, .int x1), (2, .int x2), (4, .int x4), (5, .int x5), (7, .int x7), (8, .int x8), (9, .int x9), (10, .int x10)]) d_Law_holds_113 rfl (by decide) rfl ?_
  refine g_iload_n d_Law_holds_114 rfl 3 rfl ?_
  refine g_iload d_Law_holds_115 9 rfl ?_
  refine g_iconst (v := -1) d_Law_holds_117 (by decide) ?_
  refine g_icmp_ne (tgt := 125) d_Law_holds_118 (by decide) (fun c15 => ?_) (fun c15 => ?_)
  · rw [if_neg c15] at h
    refine g_iconst (v := 1) d_Law_holds_125 (by decide) ?_
    refine gGo_sub [1, 2, 0, 4, 5, 6, 7, 8, 9] rfl ?_
    exact t_Law_holds_b126_55 hl0 hX hT hR (gLe hk (Nat.le_of_ble_eq_true rfl)) hb M x1 (s1 + s0) x4 x5 x7 x8 x9 x10 1 x2 _ h k1 k2
  · rw [if_pos c15] at h
    refine g_iconst (v := 0) d_Law_holds_121 (by decide) ?_
    refine g_goto (tgt := 126) d_Law_holds_122 (by decide) ?_
    refine gGo_sub [1, 2, 0, 4, 5, 6, 7, 8, 9] rfl ?_
    exact t_Law_holds_b126_55 hl0 hX hT hR (gLe hk (Nat.le_of_ble_eq_true rfl)) hb M x1 (s1 + s0) x4 x5 x7 x8 x9 x10 0 x2 _ h k1 k2
noncomputable def f_Law_holds_s55 (M : gMem) (x1 : Int32) (x2 : Int32) (x3 : Int32) (x4 : Int32) (x5 : Int32) (x6 : Int32) (x7 : Int32) : Option ((Int32 × Int32 × Int32 × Int32 × gMem) ⊕ (Int32 × Int32 × Int32 × Int32 × gMem)) :=
  if 32 ≤ x7 then
    some (.inr (x2, x3, x6, x7, M))
  else
    if x6 = 0 then
      some (.inr (x2, x3, x6, x7, M))
    else
      (f_Law_call M 3 x7 0 0).bind fun q4 =>
      (f_Law_call q4.2 3 x7 1 0).bind fun q5 =>
      (f_Law_call q5.2 3 x7 2 0).bind fun q6 =>
      if q4.1 = (-1) then
        f_Law_holds_b112_55 q6.2 x1 x2 x4 x5 x7 q4.1 q5.1 q6.1 1 x3
      else
        f_Law_holds_b112_55 q6.2 x1 x2 x4 x5 x7 q4.1 q5.1 q6.1 0 x3
theorem t_Law_holds_s55 {l : Launch} {ε : gEnv} (hl0 : l.stackTraces = false) (hX : gXw ε) {R : Room} {T : gTT} {Z : gZZ} {k0 n0 K ka kb : Nat} (hT : gTok T) (hR : gRm R k0 n0 K 155 6121) (hk : ka + 3 ≤ kb) (hb : kb ≤ K) (M : gMem) (x1 : Int32) (x2 : Int32) (x3 : Int32) (x4 : Int32) (x5 : Int32) (x6 : Int32) (x7 : Int32) (res : ((Int32 × Int32 × Int32 × Int32 × gMem) ⊕ (Int32 × Int32 × Int32 × Int32 × gMem))) (h : f_Law_holds_s55 M x1 x2 x3 x4 x5 x6 x7 = some res) (k1 : ∀ s0 : (Int32 × Int32 × Int32 × Int32 × gMem), res = .inl s0 → gGo l ε k_Law_holds R (gFg T Z k0 n0 kb) 55 [(0, .ref (ε.2.2.1 18 0)), (1, .int x1), (2, .int s0.1), (3, .int s0.2.1), (4, .int x4), (5, .int x5), (6, .int s0.2.2.1), (7, .int s0.2.2.2.1)] [] s0.2.2.2.2) (k2 : ∀ s0 : (Int32 × Int32 × Int32 × Int32 × gMem), res = .inr s0 → gGo l ε k_Law_holds R (gFg T Z k0 n0 kb) 198 [(0, .ref (ε.2.2.1 18 0)), (1, .int x1), (2, .int s0.1), (3, .int s0.2.1), (4, .int x4), (5, .int x5), (6, .int s0.2.2.1), (7, .int s0.2.2.2.1)] [] s0.2.2.2.2) : gGo l ε k_Law_holds R (gFg T Z k0 n0 ka) 55 [(0, .ref (ε.2.2.1 18 0)), (1, .int x1), (2, .int x2), (3, .int x3), (4, .int x4), (5, .int x5), (6, .int x6), (7, .int x7)] [] M := by
  unfold f_Law_holds_s55 at h
  refine g_iload d_Law_holds_55 7 rfl ?_
  refine g_bipush (v := 32) d_Law_holds_57 (by decide) ?_
  refine g_icmp_ge (tgt := 198) d_Law_holds_59 (by decide) (fun c18 => ?_) (fun c18 => ?_)
  · rw [if_pos c18] at h
    obtain rfl := Option.some.inj h
    exact g_useK hR (gLe0 hk) hb (k2 (x2, x3, x6, x7, M) rfl)
  · rw [if_neg c18] at h
    refine g_iload d_Law_holds_62 6 rfl ?_
    refine g_if_eq (tgt := 198) d_Law_holds_64 (by decide) (fun c17 => ?_) (fun c17 => ?_)
    · rw [if_pos c17] at h
      obtain rfl := Option.some.inj h
      exact g_useK hR (gLe0 hk) hb (k2 (x2, x3, x6, x7, M) rfl)
    · rw [if_neg c17] at h
      refine g_aload_n d_Law_holds_67 rfl 0 rfl ?_
      refine g_iconst (v := 3) d_Law_holds_68 (by decide) ?_
      refine g_iload d_Law_holds_69 7 rfl ?_
      refine g_iconst (v := 0) d_Law_holds_71 (by decide) ?_
      refine g_iconst (v := 0) d_Law_holds_72 (by decide) ?_
      obtain ⟨q4, hq4, h⟩ := gOb h
      refine g_callK (kb := (ka + 1)) (As := [.ref (ε.2.2.1 18 0), .int 3, .int x7, .int 0, .int 0]) (rest := []) hT hR (fun _ => ctk_Law_call hl0 hX M 3 x7 0 0 _ hq4) d_Law_holds_73 ca_Law_call w_281 rfl rfl (Nat.le_of_ble_eq_true rfl) ⟨(Nat.le_of_ble_eq_true rfl), (Nat.le_of_ble_eq_true rfl)⟩ (Nat.le_refl _) (Nat.le_trans (gLe hk (Nat.le_of_ble_eq_true rfl)) hb) ?_
      refine g_istore (L' := [(8, .int q4.1), (0, .ref (ε.2.2.1 18 0)), (1, .int x1), (2, .int x2), (3, .int x3), (4, .int x4), (5, .int x5), (6, .int x6), (7, .int x7)]) d_Law_holds_76 (by decide) rfl ?_
      refine g_aload_n d_Law_holds_78 rfl 1 rfl ?_
      refine g_iconst (v := 3) d_Law_holds_79 (by decide) ?_
      refine g_iload d_Law_holds_80 8 rfl ?_
      refine g_iconst (v := 1) d_Law_holds_82 (by decide) ?_
      refine g_iconst (v := 0) d_Law_holds_83 (by decide) ?_
      obtain ⟨q5, hq5, h⟩ := gOb h
      refine g_callK (kb := (ka + 2)) (As := [.ref (ε.2.2.1 18 0), .int 3, .int x7, .int 1, .int 0]) (rest := []) hT hR (fun _ => ctk_Law_call hl0 hX q4.2 3 x7 1 0 _ hq5) d_Law_holds_84 ca_Law_call w_281 rfl rfl (Nat.le_of_ble_eq_true rfl) ⟨(Nat.le_of_ble_eq_true rfl), (Nat.le_of_ble_eq_true rfl)⟩ (Nat.le_refl _) (Nat.le_trans (gLe hk (Nat.le_of_ble_eq_true rfl)) hb) ?_
      refine g_istore (L' := [(9, .int q5.1), (8, .int q4.1), (0, .ref (ε.2.2.1 18 0)), (1, .int x1), (2, .int x2), (3, .int x3), (4, .int x4), (5, .int x5), (6, .int x6), (7, .int x7)]) d_Law_holds_87 (by decide) rfl ?_
      refine g_aload_n d_Law_holds_89 rfl 2 rfl ?_
      refine g_iconst (v := 3) d_Law_holds_90 (by decide) ?_
      refine g_iload d_Law_holds_91 9 rfl ?_
      refine g_iconst (v := 2) d_Law_holds_93 (by decide) ?_
      refine g_iconst (v := 0) d_Law_holds_94 (by decide) ?_
      obtain ⟨q6, hq6, h⟩ := gOb h
      refine g_callK (kb := (ka + 3)) (As := [.ref (ε.2.2.1 18 0), .int 3, .int x7, .int 2, .int 0]) (rest := []) hT hR (fun _ => ctk_Law_call hl0 hX q5.2 3 x7 2 0 _ hq6) d_Law_holds_95 ca_Law_call w_281 rfl rfl (Nat.le_of_ble_eq_true rfl) ⟨(Nat.le_of_ble_eq_true rfl), (Nat.le_of_ble_eq_true rfl)⟩ (Nat.le_refl _) (Nat.le_trans (gLe hk (Nat.le_of_ble_eq_true rfl)) hb) ?_
      refine g_istore (L' := [(10, .int q6.1), (9, .int q5.1), (8, .int q4.1), (0, .ref (ε.2.2.1 18 0)), (1, .int x1), (2, .int x2), (3, .int x3), (4, .int x4), (5, .int x5), (6, .int x6), (7, .int x7)]) d_Law_holds_98 (by decide) rfl ?_
      refine g_iload_n d_Law_holds_100 rfl 6 rfl ?_
      refine g_iload d_Law_holds_101 2 rfl ?_
      refine g_iconst (v := -1) d_Law_holds_103 (by decide) ?_
      refine g_icmp_ne (tgt := 111) d_Law_holds_104 (by decide) (fun c16 => ?_) (fun c16 => ?_)
      · rw [if_neg c16] at h
        refine g_iconst (v := 0) d_Law_holds_111 (by decide) ?_
        refine gGo_sub [3, 4, 5, 7, 8, 10, 2, 1, 0] rfl ?_
        exact t_Law_holds_b112_55 hl0 hX hT hR (gLe2 hk (Nat.le_of_ble_eq_true rfl)) hb q6.2 x1 x2 x4 x5 x7 q4.1 q5.1 q6.1 0 x3 _ h k1 k2
      · rw [if_pos c16] at h
        refine g_iconst (v := 1) d_Law_holds_107 (by decide) ?_
        refine g_goto (tgt := 112) d_Law_holds_108 (by decide) ?_
        refine gGo_sub [3, 4, 5, 7, 8, 10, 2, 1, 0] rfl ?_
        exact t_Law_holds_b112_55 hl0 hX hT hR (gLe2 hk (Nat.le_of_ble_eq_true rfl)) hb q6.2 x1 x2 x4 x5 x7 q4.1 q5.1 q6.1 1 x3 _ h k1 k2
noncomputable def f_Law_holds_l55 (x1 : Int32) (x4 : Int32) (x5 : Int32) (j : Nat) (s : (Int32 × Int32 × Int32 × Int32 × gMem)) : Option (Int32 × Int32 × Int32 × Int32 × gMem) := gIt (fun s => f_Law_holds_s55 s.2.2.2.2 x1 s.1 s.2.1 x4 x5 s.2.2.1 s.2.2.2.1) j s
theorem t_Law_holds_l55 {l : Launch} {ε : gEnv} (hl0 : l.stackTraces = false) (hX : gXw ε) {R : Room} {T : gTT} {Z : gZZ} {k0 n0 K : Nat} (hT : gTok T) (hR : gRm R k0 n0 K 155 6121) (x1 : Int32) (x4 : Int32) (x5 : Int32) : ∀ (j : Nat) (s s' : (Int32 × Int32 × Int32 × Int32 × gMem)) (ka : Nat), f_Law_holds_l55 x1 x4 x5 j s = some s' → ka + 3 * j ≤ K → gGo l ε k_Law_holds R (gFg T Z k0 n0 (ka + 3 * j)) 198 [(0, .ref (ε.2.2.1 18 0)), (1, .int x1), (2, .int s'.1), (3, .int s'.2.1), (4, .int x4), (5, .int x5), (6, .int s'.2.2.1), (7, .int s'.2.2.2.1)] [] s'.2.2.2.2 → gGo l ε k_Law_holds R (gFg T Z k0 n0 ka) 55 [(0, .ref (ε.2.2.1 18 0)), (1, .int x1), (2, .int s.1), (3, .int s.2.1), (4, .int x4), (5, .int x5), (6, .int s.2.2.1), (7, .int s.2.2.2.1)] [] s.2.2.2.2 := by
  intro j
  induction j with
  | zero => intro s s' ka h; cases h
  | succ j ih =>
    intro s s' ka h hk kk
    rcases gIt_s h with ⟨s1, h1, h2⟩ | h1
    · refine t_Law_holds_s55 (kb := ka + 3) hl0 hX hT hR (Nat.le_refl _) (by omega) s.2.2.2.2 x1 s.1 s.2.1 x4 x5 s.2.2.1 s.2.2.2.1 (.inl s1) h1 (fun s0 e => ?_) (fun s0 e => nomatch e)
      cases e
      refine ih s1 s' (ka + 3) h2 (by omega) ?_
      rw [show ka + 3 + 3 * j = ka + 3 * (j + 1) by omega]
      exact kk
    · refine t_Law_holds_s55 (kb := ka + 3) hl0 hX hT hR (Nat.le_refl _) (by omega) s.2.2.2.2 x1 s.1 s.2.1 x4 x5 s.2.2.1 s.2.2.2.1 (.inr s') h1 (fun s0 e => nomatch e) (fun s0 e => ?_)
      cases e
      exact g_useK hR (by omega) hk kk
noncomputable def f_Law_holds_b428_227 (M : gMem) (x1 : Int32) (x2 : Int32) (x3 : Int32) (x4 : Int32) (x5 : Int32) (x7 : Int32) (x8 : Int32) (x9 : Int32) (x10 : Int32) (x11 : Int32) (x12 : Int32) (s0 : Int32) : Option ((Int32 × Int32 × Int32 × Int32 × Int32 × Int32 × gMem) ⊕ (Int32 × Int32 × Int32 × Int32 × Int32 × Int32 × gMem)) :=
  some (.inl (s0, x7, x8, x10, x11, (x12 + 1), M))
theorem t_Law_holds_b428_227 {l : Launch} {ε : gEnv} (hl0 : l.stackTraces = false) (hX : gXw ε) {R : Room} {T : gTT} {Z : gZZ} {k0 n0 K ka kb : Nat} (hT : gTok T) (hR : gRm R k0 n0 K 155 6121) (hk : ka + 0 ≤ kb) (hb : kb ≤ K) (M : gMem) (x1 : Int32) (x2 : Int32) (x3 : Int32) (x4 : Int32) (x5 : Int32) (x7 : Int32) (x8 : Int32) (x9 : Int32) (x10 : Int32) (x11 : Int32) (x12 : Int32) (s0 : Int32) (res : ((Int32 × Int32 × Int32 × Int32 × Int32 × Int32 × gMem) ⊕ (Int32 × Int32 × Int32 × Int32 × Int32 × Int32 × gMem))) (h : f_Law_holds_b428_227 M x1 x2 x3 x4 x5 x7 x8 x9 x10 x11 x12 s0 = some res) (k1 : ∀ s0 : (Int32 × Int32 × Int32 × Int32 × Int32 × Int32 × gMem), res = .inl s0 → gGo l ε k_Law_holds R (gFg T Z k0 n0 kb) 227 [(0, .ref (ε.2.2.1 18 0)), (1, .int x1), (2, .int x2), (3, .int x3), (4, .int x4), (5, .int x5), (6, .int s0.1), (7, .int s0.2.1), (8, .int s0.2.2.1), (9, .int x9), (10, .int s0.2.2.2.1), (11, .int s0.2.2.2.2.1), (12, .int s0.2.2.2.2.2.1)] [] s0.2.2.2.2.2.2) (k2 : ∀ s0 : (Int32 × Int32 × Int32 × Int32 × Int32 × Int32 × gMem), res = .inr s0 → gGo l ε k_Law_holds R (gFg T Z k0 n0 kb) 436 [(0, .ref (ε.2.2.1 18 0)), (1, .int x1), (2, .int x2), (3, .int x3), (4, .int x4), (5, .int x5), (6, .int s0.1), (7, .int s0.2.1), (8, .int s0.2.2.1), (9, .int x9), (10, .int s0.2.2.2.1), (11, .int s0.2.2.2.2.1), (12, .int s0.2.2.2.2.2.1)] [] s0.2.2.2.2.2.2) : gGo l ε k_Law_holds R (gFg T Z k0 n0 ka) 428 [(0, .ref (ε.2.2.1 18 0)), (1, .int x1), (2, .int x2), (3, .int x3), (4, .int x4), (5, .int x5), (7, .int x7), (8, .int x8), (9, .int x9), (10, .int x10), (11, .int x11), (12, .int x12)] [.int s0] M := by
  unfold f_Law_holds_b428_227 at h
  refine g_istore (L' := [(6, .int s0), (0, .ref (ε.2.2.1 18 0)), (1, .int x1), (2, .int x2), (3, .int x3), (4, .int x4), (5, .int x5), (7, .int x7), (8, .int x8), (9, .int x9), (10, .int x10), (11, .int x11), (12, .int x12)]) d_Law_holds_428 (by decide) rfl ?_
  refine g_iinc (v := (x12 + 1)) (L' := [(12, .int (x12 + 1)), (6, .int s0), (0, .ref (ε.2.2.1 18 0)), (1, .int x1), (2, .int x2), (3, .int x3), (4, .int x4), (5, .int x5), (7, .int x7), (8, .int x8), (9, .int x9), (10, .int x10), (11, .int x11)]) d_Law_holds_430 (j := 12) rfl rfl (by decide) rfl ?_
  refine g_goto (tgt := 227) d_Law_holds_433 (by decide) ?_
  refine gGo_sub [2, 3, 4, 5, 6, 7, 1, 8, 9, 10, 11, 12, 0] rfl ?_
  obtain rfl := Option.some.inj h
  exact g_useK hR (gLe0 hk) hb (k1 (s0, x7, x8, x10, x11, (x12 + 1), M) rfl)
noncomputable def f_Law_holds_b427_227 (M : gMem) (x1 : Int32) (x2 : Int32) (x3 : Int32) (x4 : Int32) (x5 : Int32) (x7 : Int32) (x8 : Int32) (x9 : Int32) (x10 : Int32) (x11 : Int32) (x12 : Int32) : Option ((Int32 × Int32 × Int32 × Int32 × Int32 × Int32 × gMem) ⊕ (Int32 × Int32 × Int32 × Int32 × Int32 × Int32 × gMem)) :=
  f_Law_holds_b428_227 M x1 x2 x3 x4 x5 x7 x8 x9 x10 x11 x12 0
theorem t_Law_holds_b427_227 {l : Launch} {ε : gEnv} (hl0 : l.stackTraces = false) (hX : gXw ε) {R : Room} {T : gTT} {Z : gZZ} {k0 n0 K ka kb : Nat} (hT : gTok T) (hR : gRm R k0 n0 K 155 6121) (hk : ka + 0 ≤ kb) (hb : kb ≤ K) (M : gMem) (x1 : Int32) (x2 : Int32) (x3 : Int32) (x4 : Int32) (x5 : Int32) (x7 : Int32) (x8 : Int32) (x9 : Int32) (x10 : Int32) (x11 : Int32) (x12 : Int32) (res : ((Int32 × Int32 × Int32 × Int32 × Int32 × Int32 × gMem) ⊕ (Int32 × Int32 × Int32 × Int32 × Int32 × Int32 × gMem))) (h : f_Law_holds_b427_227 M x1 x2 x3 x4 x5 x7 x8 x9 x10 x11 x12 = some res) (k1 : ∀ s0 : (Int32 × Int32 × Int32 × Int32 × Int32 × Int32 × gMem), res = .inl s0 → gGo l ε k_Law_holds R (gFg T Z k0 n0 kb) 227 [(0, .ref (ε.2.2.1 18 0)), (1, .int x1), (2, .int x2), (3, .int x3), (4, .int x4), (5, .int x5), (6, .int s0.1), (7, .int s0.2.1), (8, .int s0.2.2.1), (9, .int x9), (10, .int s0.2.2.2.1), (11, .int s0.2.2.2.2.1), (12, .int s0.2.2.2.2.2.1)] [] s0.2.2.2.2.2.2) (k2 : ∀ s0 : (Int32 × Int32 × Int32 × Int32 × Int32 × Int32 × gMem), res = .inr s0 → gGo l ε k_Law_holds R (gFg T Z k0 n0 kb) 436 [(0, .ref (ε.2.2.1 18 0)), (1, .int x1), (2, .int x2), (3, .int x3), (4, .int x4), (5, .int x5), (6, .int s0.1), (7, .int s0.2.1), (8, .int s0.2.2.1), (9, .int x9), (10, .int s0.2.2.2.1), (11, .int s0.2.2.2.2.1), (12, .int s0.2.2.2.2.2.1)] [] s0.2.2.2.2.2.2) : gGo l ε k_Law_holds R (gFg T Z k0 n0 ka) 427 [(0, .ref (ε.2.2.1 18 0)), (1, .int x1), (2, .int x2), (3, .int x3), (4, .int x4), (5, .int x5), (7, .int x7), (8, .int x8), (9, .int x9), (10, .int x10), (11, .int x11), (12, .int x12)] [] M := by
  unfold f_Law_holds_b427_227 at h
  refine g_iconst (v := 0) d_Law_holds_427 (by decide) ?_
  exact t_Law_holds_b428_227 hl0 hX hT hR (gLe hk (Nat.le_of_ble_eq_true rfl)) hb M x1 x2 x3 x4 x5 x7 x8 x9 x10 x11 x12 0 _ h k1 k2
noncomputable def f_Law_holds_b423_227 (M : gMem) (x1 : Int32) (x2 : Int32) (x3 : Int32) (x4 : Int32) (x5 : Int32) (x7 : Int32) (x8 : Int32) (x9 : Int32) (x10 : Int32) (x11 : Int32) (x12 : Int32) : Option ((Int32 × Int32 × Int32 × Int32 × Int32 × Int32 × gMem) ⊕ (Int32 × Int32 × Int32 × Int32 × Int32 × Int32 × gMem)) :=
  f_Law_holds_b428_227 M x1 x2 x3 x4 x5 x7 x8 x9 x10 x11 x12 1
theorem t_Law_holds_b423_227 {l : Launch} {ε : gEnv} (hl0 : l.stackTraces = false) (hX : gXw ε) {R : Room} {T : gTT} {Z : gZZ} {k0 n0 K ka kb : Nat} (hT : gTok T) (hR : gRm R k0 n0 K 155 6121) (hk : ka + 0 ≤ kb) (hb : kb ≤ K) (M : gMem) (x1 : Int32) (x2 : Int32) (x3 : Int32) (x4 : Int32) (x5 : Int32) (x7 : Int32) (x8 : Int32) (x9 : Int32) (x10 : Int32) (x11 : Int32) (x12 : Int32) (res : ((Int32 × Int32 × Int32 × Int32 × Int32 × Int32 × gMem) ⊕ (Int32 × Int32 × Int32 × Int32 × Int32 × Int32 × gMem))) (h : f_Law_holds_b423_227 M x1 x2 x3 x4 x5 x7 x8 x9 x10 x11 x12 = some res) (k1 : ∀ s0 : (Int32 × Int32 × Int32 × Int32 × Int32 × Int32 × gMem), res = .inl s0 → gGo l ε k_Law_holds R (gFg T Z k0 n0 kb) 227 [(0, .ref (ε.2.2.1 18 0)), (1, .int x1), (2, .int x2), (3, .int x3), (4, .int x4), (5, .int x5), (6, .int s0.1), (7, .int s0.2.1), (8, .int s0.2.2.1), (9, .int x9), (10, .int s0.2.2.2.1), (11, .int s0.2.2.2.2.1), (12, .int s0.2.2.2.2.2.1)] [] s0.2.2.2.2.2.2) (k2 : ∀ s0 : (Int32 × Int32 × Int32 × Int32 × Int32 × Int32 × gMem), res = .inr s0 → gGo l ε k_Law_holds R (gFg T Z k0 n0 kb) 436 [(0, .ref (ε.2.2.1 18 0)), (1, .int x1), (2, .int x2), (3, .int x3), (4, .int x4), (5, .int x5), (6, .int s0.1), (7, .int s0.2.1), (8, .int s0.2.2.1), (9, .int x9), (10, .int s0.2.2.2.1), (11, .int s0.2.2.2.2.1), (12, .int s0.2.2.2.2.2.1)] [] s0.2.2.2.2.2.2) : gGo l ε k_Law_holds R (gFg T Z k0 n0 ka) 423 [(0, .ref (ε.2.2.1 18 0)), (1, .int x1), (2, .int x2), (3, .int x3), (4, .int x4), (5, .int x5), (7, .int x7), (8, .int x8), (9, .int x9), (10, .int x10), (11, .int x11), (12, .int x12)] [] M := by
  unfold f_Law_holds_b423_227 at h
  refine g_iconst (v := 1) d_Law_holds_423 (by decide) ?_
  refine g_goto (tgt := 428) d_Law_holds_424 (by decide) ?_
  exact t_Law_holds_b428_227 hl0 hX hT hR (gLe hk (Nat.le_of_ble_eq_true rfl)) hb M x1 x2 x3 x4 x5 x7 x8 x9 x10 x11 x12 1 _ h k1 k2
noncomputable def f_Law_holds_b402_227 (M : gMem) (x1 : Int32) (x2 : Int32) (x3 : Int32) (x4 : Int32) (x5 : Int32) (x7 : Int32) (x8 : Int32) (x9 : Int32) (x10 : Int32) (x11 : Int32) (x12 : Int32) (x13 : Int32) (s0 : Int32) (s1 : Int32) : Option ((Int32 × Int32 × Int32 × Int32 × Int32 × Int32 × gMem) ⊕ (Int32 × Int32 × Int32 × Int32 × Int32 × Int32 × gMem)) :=
  if s1 = s0 then
    (f_Law_call M 4 x9 x12 5).bind fun q25 =>
    if q25.1 = 0 then
      f_Law_holds_b423_227 q25.2 x1 x2 x3 x4 x5 x7 x8 x9 x10 x11 x12
    else
      if x13 = 0 then
        f_Law_holds_b423_227 q25.2 x1 x2 x3 x4 x5 x7 x8 x9 x10 x11 x12
      else
        f_Law_holds_b427_227 q25.2 x1 x2 x3 x4 x5 x7 x8 x9 x10 x11 x12
  else
    f_Law_holds_b427_227 M x1 x2 x3 x4 x5 x7 x8 x9 x10 x11 x12
theorem t_Law_holds_b402_227 {l : Launch} {ε : gEnv} (hl0 : l.stackTraces = false) (hX : gXw ε) {R : Room} {T : gTT} {Z : gZZ} {k0 n0 K ka kb : Nat} (hT : gTok T) (hR : gRm R k0 n0 K 155 6121) (hk : ka + 1 ≤ kb) (hb : kb ≤ K) (M : gMem) (x1 : Int32) (x2 : Int32) (x3 : Int32) (x4 : Int32) (x5 : Int32) (x7 : Int32) (x8 : Int32) (x9 : Int32) (x10 : Int32) (x11 : Int32) (x12 : Int32) (x13 : Int32) (s0 : Int32) (s1 : Int32) (res : ((Int32 × Int32 × Int32 × Int32 × Int32 × Int32 × gMem) ⊕ (Int32 × Int32 × Int32 × Int32 × Int32 × Int32 × gMem))) (h : f_Law_holds_b402_227 M x1 x2 x3 x4 x5 x7 x8 x9 x10 x11 x12 x13 s0 s1 = some res) (k1 : ∀ s0 : (Int32 × Int32 × Int32 × Int32 × Int32 × Int32 × gMem), res = .inl s0 → gGo l ε k_Law_holds R (gFg T Z k0 n0 kb) 227 [(0, .ref (ε.2.2.1 18 0)), (1, .int x1), (2, .int x2), (3, .int x3), (4, .int x4), (5, .int x5), (6, .int s0.1), (7, .int s0.2.1), (8, .int s0.2.2.1), (9, .int x9), (10, .int s0.2.2.2.1), (11, .int s0.2.2.2.2.1), (12, .int s0.2.2.2.2.2.1)] [] s0.2.2.2.2.2.2) (k2 : ∀ s0 : (Int32 × Int32 × Int32 × Int32 × Int32 × Int32 × gMem), res = .inr s0 → gGo l ε k_Law_holds R (gFg T Z k0 n0 kb) 436 [(0, .ref (ε.2.2.1 18 0)), (1, .int x1), (2, .int x2), (3, .int x3), (4, .int x4), (5, .int x5), (6, .int s0.1), (7, .int s0.2.1), (8, .int s0.2.2.1), (9, .int x9), (10, .int s0.2.2.2.1), (11, .int s0.2.2.2.2.1), (12, .int s0.2.2.2.2.2.1)] [] s0.2.2.2.2.2.2) : gGo l ε k_Law_holds R (gFg T Z k0 n0 ka) 402 [(0, .ref (ε.2.2.1 18 0)), (1, .int x1), (2, .int x2), (3, .int x3), (4, .int x4), (5, .int x5), (7, .int x7), (8, .int x8), (9, .int x9), (10, .int x10), (11, .int x11), (12, .int x12), (13, .int x13)] [.int s0, .int s1] M := by
  unfold f_Law_holds_b402_227 at h
  refine g_icmp_ne (tgt := 427) d_Law_holds_402 (by decide) (fun c28 => ?_) (fun c28 => ?_)
  · rw [if_neg c28] at h
    refine gGo_sub [0, 1, 2, 3, 4, 5, 6, 7, 8, 9, 10, 11] rfl ?_
    exact t_Law_holds_b427_227 hl0 hX hT hR (gLe hk (Nat.le_of_ble_eq_true rfl)) hb M x1 x2 x3 x4 x5 x7 x8 x9 x10 x11 x12 _ h k1 k2
  · rw [if_pos c28] at h
    refine g_aload_n d_Law_holds_405 rfl 0 rfl ?_
    refine g_iconst (v := 4) d_Law_holds_406 (by decide) ?_
    refine g_iload d_Law_holds_407 8 rfl ?_
    refine g_iload d_Law_holds_409 11 rfl ?_
    refine g_iconst (v := 5) d_Law_holds_411 (by decide) ?_
    obtain ⟨q25, hq25, h⟩ := gOb h
    refine g_callK (kb := (ka + 1)) (As := [.ref (ε.2.2.1 18 0), .int 4, .int x9, .int x12, .int 5]) (rest := []) hT hR (fun _ => ctk_Law_call hl0 hX M 4 x9 x12 5 _ hq25) d_Law_holds_412 ca_Law_call w_281 rfl rfl (Nat.le_of_ble_eq_true rfl) ⟨(Nat.le_of_ble_eq_true rfl), (Nat.le_of_ble_eq_true rfl)⟩ (Nat.le_refl _) (Nat.le_trans (gLe hk (Nat.le_of_ble_eq_true rfl)) hb) ?_
    refine g_if_eq (tgt := 423) d_Law_holds_415 (by decide) (fun c27 => ?_) (fun c27 => ?_)
    · rw [if_pos c27] at h
      refine gGo_sub [0, 1, 2, 3, 4, 5, 6, 7, 8, 9, 10, 11] rfl ?_
      exact t_Law_holds_b423_227 hl0 hX hT hR (gLe2 hk (Nat.le_of_ble_eq_true rfl)) hb q25.2 x1 x2 x3 x4 x5 x7 x8 x9 x10 x11 x12 _ h k1 k2
    · rw [if_neg c27] at h
      refine g_iload d_Law_holds_418 12 rfl ?_
      refine g_if_ne (tgt := 427) d_Law_holds_420 (by decide) (fun c26 => ?_) (fun c26 => ?_)
      · rw [if_neg c26] at h
        refine gGo_sub [0, 1, 2, 3, 4, 5, 6, 7, 8, 9, 10, 11] rfl ?_
        exact t_Law_holds_b427_227 hl0 hX hT hR (gLe2 hk (Nat.le_of_ble_eq_true rfl)) hb q25.2 x1 x2 x3 x4 x5 x7 x8 x9 x10 x11 x12 _ h k1 k2
      · rw [if_pos c26] at h
        refine gGo_sub [0, 1, 2, 3, 4, 5, 6, 7, 8, 9, 10, 11] rfl ?_
        exact t_Law_holds_b423_227 hl0 hX hT hR (gLe2 hk (Nat.le_of_ble_eq_true rfl)) hb q25.2 x1 x2 x3 x4 x5 x7 x8 x9 x10 x11 x12 _ h k1 k2
noncomputable def f_Law_holds_b372_227 (M : gMem) (x1 : Int32) (x2 : Int32) (x3 : Int32) (x4 : Int32) (x5 : Int32) (x7 : Int32) (x8 : Int32) (x9 : Int32) (x10 : Int32) (x11 : Int32) (x12 : Int32) (x13 : Int32) (x14 : Int32) (x16 : Int32) (x17 : Int32) (s0 : Int32) (s1 : Int32) : Option ((Int32 × Int32 × Int32 × Int32 × Int32 × Int32 × gMem) ⊕ (Int32 × Int32 × Int32 × Int32 × Int32 × Int32 × gMem)) :=
  if s1 = s0 then
    if x16 = 0 then
      f_Law_holds_b402_227 M x1 x2 x3 x4 x5 x7 x8 x9 x10 x11 x12 x13 (-1) x17
    else
      if (gRem x16 2) = (gRem x14 2) then
        f_Law_holds_b402_227 M x1 x2 x3 x4 x5 x7 x8 x9 x10 x11 x12 x13 1 x17
      else
        f_Law_holds_b402_227 M x1 x2 x3 x4 x5 x7 x8 x9 x10 x11 x12 x13 0 x17
  else
    f_Law_holds_b427_227 M x1 x2 x3 x4 x5 x7 x8 x9 x10 x11 x12
theorem t_Law_holds_b372_227 {l : Launch} {ε : gEnv} (hl0 : l.stackTraces = false) (hX : gXw ε) {R : Room} {T : gTT} {Z : gZZ} {k0 n0 K ka kb : Nat} (hT : gTok T) (hR : gRm R k0 n0 K 155 6121) (hk : ka + 1 ≤ kb) (hb : kb ≤ K) (M : gMem) (x1 : Int32) (x2 : Int32) (x3 : Int32) (x4 : Int32) (x5 : Int32) (x7 : Int32) (x8 : Int32) (x9 : Int32) (x10 : Int32) (x11 : Int32) (x12 : Int32) (x13 : Int32) (x14 : Int32) (x16 : Int32) (x17 : Int32) (s0 : Int32) (s1 : Int32) (res : ((Int32 × Int32 × Int32 × Int32 × Int32 × Int32 × gMem) ⊕ (Int32 × Int32 × Int32 × Int32 × Int32 × Int32 × gMem))) (h : f_Law_holds_b372_227 M x1 x2 x3 x4 x5 x7 x8 x9 x10 x11 x12 x13 x14 x16 x17 s0 s1 = some res) (k1 : ∀ s0 : (Int32 × Int32 × Int32 × Int32 × Int32 × Int32 × gMem), res = .inl s0 → gGo l ε k_Law_holds R (gFg T Z k0 n0 kb) 227 [(0, .ref (ε.2.2.1 18 0)), (1, .int x1), (2, .int x2), (3, .int x3), (4, .int x4), (5, .int x5), (6, .int s0.1), (7, .int s0.2.1), (8, .int s0.2.2.1), (9, .int x9), (10, .int s0.2.2.2.1), (11, .int s0.2.2.2.2.1), (12, .int s0.2.2.2.2.2.1)] [] s0.2.2.2.2.2.2) (k2 : ∀ s0 : (Int32 × Int32 × Int32 × Int32 × Int32 × Int32 × gMem), res = .inr s0 → gGo l ε k_Law_holds R (gFg T Z k0 n0 kb) 436 [(0, .ref (ε.2.2.1 18 0)), (1, .int x1), (2, .int x2), (3, .int x3), (4, .int x4), (5, .int x5), (6, .int s0.1), (7, .int s0.2.1), (8, .int s0.2.2.1), (9, .int x9), (10, .int s0.2.2.2.1), (11, .int s0.2.2.2.2.1), (12, .int s0.2.2.2.2.2.1)] [] s0.2.2.2.2.2.2) : gGo l ε k_Law_holds R (gFg T Z k0 n0 ka) 372 [(0, .ref (ε.2.2.1 18 0)), (1, .int x1), (2, .int x2), (3, .int x3), (4, .int x4), (5, .int x5), (7, .int x7), (8, .int x8), (9, .int x9), (10, .int x10), (11, .int x11), (12, .int x12), (13, .int x13), (14, .int x14), (16, .int x16), (17, .int x17)] [.int s0, .int s1] M := by
  unfold f_Law_holds_b372_227 at h
  refine g_icmp_ne (tgt := 427) d_Law_holds_372 (by decide) (fun c31 => ?_) (fun c31 => ?_)
  · rw [if_neg c31] at h
    refine gGo_sub [0, 1, 2, 3, 4, 5, 6, 7, 8, 9, 10, 11] rfl ?_
    exact t_Law_holds_b427_227 hl0 hX hT hR (gLe hk (Nat.le_of_ble_eq_true rfl)) hb M x1 x2 x3 x4 x5 x7 x8 x9 x10 x11 x12 _ h k1 k2
  · rw [if_pos c31] at h
    refine g_iload d_Law_holds_375 15 rfl ?_
    refine g_iload d_Law_holds_377 14 rfl ?_
    refine g_if_ne (tgt := 386) d_Law_holds_379 (by decide) (fun c30 => ?_) (fun c30 => ?_)
    · rw [if_neg c30] at h
      refine g_iload d_Law_holds_386 14 rfl ?_
      refine g_iconst (v := 2) d_Law_holds_388 (by decide) ?_
      refine g_rem d_Law_holds_389 (by decide) ?_
      refine g_iload d_Law_holds_390 13 rfl ?_
      refine g_iconst (v := 2) d_Law_holds_392 (by decide) ?_
      refine g_rem d_Law_holds_393 (by decide) ?_
      refine g_icmp_ne (tgt := 401) d_Law_holds_394 (by decide) (fun c29 => ?_) (fun c29 => ?_)
      · rw [if_neg c29] at h
        refine g_iconst (v := 0) d_Law_holds_401 (by decide) ?_
        refine gGo_sub [0, 1, 2, 3, 4, 5, 6, 7, 8, 9, 10, 11, 12] rfl ?_
        exact t_Law_holds_b402_227 hl0 hX hT hR (gLe hk (Nat.le_of_ble_eq_true rfl)) hb M x1 x2 x3 x4 x5 x7 x8 x9 x10 x11 x12 x13 0 x17 _ h k1 k2
      · rw [if_pos c29] at h
        refine g_iconst (v := 1) d_Law_holds_397 (by decide) ?_
        refine g_goto (tgt := 402) d_Law_holds_398 (by decide) ?_
        refine gGo_sub [0, 1, 2, 3, 4, 5, 6, 7, 8, 9, 10, 11, 12] rfl ?_
        exact t_Law_holds_b402_227 hl0 hX hT hR (gLe hk (Nat.le_of_ble_eq_true rfl)) hb M x1 x2 x3 x4 x5 x7 x8 x9 x10 x11 x12 x13 1 x17 _ h k1 k2
    · rw [if_pos c30] at h
      refine g_iconst (v := -1) d_Law_holds_382 (by decide) ?_
      refine g_goto (tgt := 402) d_Law_holds_383 (by decide) ?_
      refine gGo_sub [0, 1, 2, 3, 4, 5, 6, 7, 8, 9, 10, 11, 12] rfl ?_
      exact t_Law_holds_b402_227 hl0 hX hT hR (gLe hk (Nat.le_of_ble_eq_true rfl)) hb M x1 x2 x3 x4 x5 x7 x8 x9 x10 x11 x12 x13 (-1) x17 _ h k1 k2
noncomputable def f_Law_holds_b361_227 (M : gMem) (x1 : Int32) (x2 : Int32) (x3 : Int32) (x4 : Int32) (x5 : Int32) (x7 : Int32) (x8 : Int32) (x9 : Int32) (x10 : Int32) (x11 : Int32) (x12 : Int32) (x13 : Int32) (x14 : Int32) (x15 : Int32) (x16 : Int32) (x17 : Int32) (s0 : Int32) : Option ((Int32 × Int32 × Int32 × Int32 × Int32 × Int32 × gMem) ⊕ (Int32 × Int32 × Int32 × Int32 × Int32 × Int32 × gMem)) :=
  if x15 ≤ 1 then
    f_Law_holds_b372_227 M x1 x2 x3 x4 x5 x7 x8 x9 x10 x11 x12 x13 x14 x16 x17 0 s0
  else
    f_Law_holds_b372_227 M x1 x2 x3 x4 x5 x7 x8 x9 x10 x11 x12 x13 x14 x16 x17 1 s0
theorem t_Law_holds_b361_227 {l : Launch} {ε : gEnv} (hl0 : l.stackTraces = false) (hX : gXw ε) {R : Room} {T : gTT} {Z : gZZ} {k0 n0 K ka kb : Nat} (hT : gTok T) (hR : gRm R k0 n0 K 155 6121) (hk : ka + 1 ≤ kb) (hb : kb ≤ K) (M : gMem) (x1 : Int32) (x2 : Int32) (x3 : Int32) (x4 : Int32) (x5 : Int32) (x7 : Int32) (x8 : Int32) (x9 : Int32) (x10 : Int32) (x11 : Int32) (x12 : Int32) (x13 : Int32) (x14 : Int32) (x15 : Int32) (x16 : Int32) (x17 : Int32) (s0 : Int32) (res : ((Int32 × Int32 × Int32 × Int32 × Int32 × Int32 × gMem) ⊕ (Int32 × Int32 × Int32 × Int32 × Int32 × Int32 × gMem))) (h : f_Law_holds_b361_227 M x1 x2 x3 x4 x5 x7 x8 x9 x10 x11 x12 x13 x14 x15 x16 x17 s0 = some res) (k1 : ∀ s0 : (Int32 × Int32 × Int32 × Int32 × Int32 × Int32 × gMem), res = .inl s0 → gGo l ε k_Law_holds R (gFg T Z k0 n0 kb) 227 [(0, .ref (ε.2.2.1 18 0)), (1, .int x1), (2, .int x2), (3, .int x3), (4, .int x4), (5, .int x5), (6, .int s0.1), (7, .int s0.2.1), (8, .int s0.2.2.1), (9, .int x9), (10, .int s0.2.2.2.1), (11, .int s0.2.2.2.2.1), (12, .int s0.2.2.2.2.2.1)] [] s0.2.2.2.2.2.2) (k2 : ∀ s0 : (Int32 × Int32 × Int32 × Int32 × Int32 × Int32 × gMem), res = .inr s0 → gGo l ε k_Law_holds R (gFg T Z k0 n0 kb) 436 [(0, .ref (ε.2.2.1 18 0)), (1, .int x1), (2, .int x2), (3, .int x3), (4, .int x4), (5, .int x5), (6, .int s0.1), (7, .int s0.2.1), (8, .int s0.2.2.1), (9, .int x9), (10, .int s0.2.2.2.1), (11, .int s0.2.2.2.2.1), (12, .int s0.2.2.2.2.2.1)] [] s0.2.2.2.2.2.2) : gGo l ε k_Law_holds R (gFg T Z k0 n0 ka) 361 [(0, .ref (ε.2.2.1 18 0)), (1, .int x1), (2, .int x2), (3, .int x3), (4, .int x4), (5, .int x5), (7, .int x7), (8, .int x8), (9, .int x9), (10, .int x10), (11, .int x11), (12, .int x12), (13, .int x13), (14, .int x14), (15, .int x15), (16, .int x16), (17, .int x17)] [.int s0] M := by
  unfold f_Law_holds_b361_227 at h
  refine g_iload d_Law_holds_361 14 rfl ?_
  refine g_iconst (v := 1) d_Law_holds_363 (by decide) ?_
  refine g_icmp_le (tgt := 371) d_Law_holds_364 (by decide) (fun c32 => ?_) (fun c32 => ?_)
  · rw [if_pos c32] at h
    refine g_iconst (v := 0) d_Law_holds_371 (by decide) ?_
    refine gGo_sub [0, 1, 2, 3, 4, 5, 6, 7, 8, 9, 10, 11, 12, 13, 15, 16] rfl ?_
    exact t_Law_holds_b372_227 hl0 hX hT hR (gLe hk (Nat.le_of_ble_eq_true rfl)) hb M x1 x2 x3 x4 x5 x7 x8 x9 x10 x11 x12 x13 x14 x16 x17 0 s0 _ h k1 k2
  · rw [if_neg c32] at h
    refine g_iconst (v := 1) d_Law_holds_367 (by decide) ?_
    refine g_goto (tgt := 372) d_Law_holds_368 (by decide) ?_
    refine gGo_sub [0, 1, 2, 3, 4, 5, 6, 7, 8, 9, 10, 11, 12, 13, 15, 16] rfl ?_
    exact t_Law_holds_b372_227 hl0 hX hT hR (gLe hk (Nat.le_of_ble_eq_true rfl)) hb M x1 x2 x3 x4 x5 x7 x8 x9 x10 x11 x12 x13 x14 x16 x17 1 s0 _ h k1 k2
noncomputable def f_Law_holds_b331_227 (M : gMem) (x1 : Int32) (x2 : Int32) (x3 : Int32) (x4 : Int32) (x5 : Int32) (x7 : Int32) (x9 : Int32) (x10 : Int32) (x11 : Int32) (x12 : Int32) (x13 : Int32) (x14 : Int32) (x15 : Int32) (x16 : Int32) (x17 : Int32) (s0 : Int32) (s1 : Int32) : Option ((Int32 × Int32 × Int32 × Int32 × Int32 × Int32 × gMem) ⊕ (Int32 × Int32 × Int32 × Int32 × Int32 × Int32 × gMem)) :=
  if x14 < x13 then
    f_Law_holds_b427_227 M x1 x2 x3 x4 x5 x7 (s1 + s0) x9 x10 x11 x12
  else
    if (x14 - x13) < x15 then
      f_Law_holds_b427_227 M x1 x2 x3 x4 x5 x7 (s1 + s0) x9 x10 x11 x12
    else
      if x16 ≤ 0 then
        f_Law_holds_b361_227 M x1 x2 x3 x4 x5 x7 (s1 + s0) x9 x10 x11 x12 x13 x14 x15 x16 x17 0
      else
        f_Law_holds_b361_227 M x1 x2 x3 x4 x5 x7 (s1 + s0) x9 x10 x11 x12 x13 x14 x15 x16 x17 1
theorem t_Law_holds_b331_227 {l : Launch} {ε : gEnv} (hl0 : l.stackTraces = false) (hX : gXw ε) {R : Room} {T : gTT} {Z : gZZ} {k0 n0 K ka kb : Nat} (hT : gTok T) (hR : gRm R k0 n0 K 155 6121) (hk : ka + 1 ≤ kb) (hb : kb ≤ K) (M : gMem) (x1 : Int32) (x2 : Int32) (x3 : Int32) (x4 : Int32) (x5 : Int32) (x7 : Int32) (x9 : Int32) (x10 : Int32) (x11 : Int32) (x12 : Int32) (x13 : Int32) (x14 : Int32) (x15 : Int32) (x16 : Int32) (x17 : Int32) (s0 : Int32) (s1 : Int32) (res : ((Int32 × Int32 × Int32 × Int32 × Int32 × Int32 × gMem) ⊕ (Int32 × Int32 × Int32 × Int32 × Int32 × Int32 × gMem))) (h : f_Law_holds_b331_227 M x1 x2 x3 x4 x5 x7 x9 x10 x11 x12 x13 x14 x15 x16 x17 s0 s1 = some res) (k1 : ∀ s0 : (Int32 × Int32 × Int32 × Int32 × Int32 × Int32 × gMem), res = .inl s0 → gGo l ε k_Law_holds R (gFg T Z k0 n0 kb) 227 [(0, .ref (ε.2.2.1 18 0)), (1, .int x1), (2, .int x2), (3, .int x3), (4, .int x4), (5, .int x5), (6, .int s0.1), (7, .int s0.2.1), (8, .int s0.2.2.1), (9, .int x9), (10, .int s0.2.2.2.1), (11, .int s0.2.2.2.2.1), (12, .int s0.2.2.2.2.2.1)] [] s0.2.2.2.2.2.2) (k2 : ∀ s0 : (Int32 × Int32 × Int32 × Int32 × Int32 × Int32 × gMem), res = .inr s0 → gGo l ε k_Law_holds R (gFg T Z k0 n0 kb) 436 [(0, .ref (ε.2.2.1 18 0)), (1, .int x1), (2, .int x2), (3, .int x3), (4, .int x4), (5, .int x5), (6, .int s0.1), (7, .int s0.2.1), (8, .int s0.2.2.1), (9, .int x9), (10, .int s0.2.2.2.1), (11, .int s0.2.2.2.2.1), (12, .int s0.2.2.2.2.2.1)] [] s0.2.2.2.2.2.2) : gGo l ε k_Law_holds R (gFg T Z k0 n0 ka) 331 [(0, .ref (ε.2.2.1 18 0)), (1, .int x1), (2, .int x2), (3, .int x3), (4, .int x4), (5, .int x5), (7, .int x7), (9, .int x9), (10, .int x10), (11, .int x11), (12, .int x12), (13, .int x13), (14, .int x14), (15, .int x15), (16, .int x16), (17, .int x17)] [.int s0, .int s1] M := by
  unfold f_Law_holds_b331_227 at h
  refine g_iadd d_Law_holds_331 ?_
  refine g_istore (L' := [(8, .int (s1 + s0)), (0, .ref (ε.2.2.1 18 0)), (1, .int x1), (2, .int x2), (3, .int x3), (4, .int x4), (5, .int x5), (7, .int x7), (9, .int x9), (10, .int x10), (11, .int x11), (12, .int x12), (13, .int x13), (14, .int x14), (15, .int x15), (16, .int x16), (17, .int x17)]) d_Law_holds_332 (by decide) rfl ?_
  refine g_iload d_Law_holds_334 12 rfl ?_
  refine g_iload d_Law_holds_336 13 rfl ?_
  refine g_icmp_gt (tgt := 427) d_Law_holds_338 (by decide) (fun c35 => ?_) (fun c35 => ?_)
  · rw [if_pos c35] at h
    refine gGo_sub [1, 2, 3, 4, 5, 6, 7, 0, 8, 9, 10, 11] rfl ?_
    exact t_Law_holds_b427_227 hl0 hX hT hR (gLe hk (Nat.le_of_ble_eq_true rfl)) hb M x1 x2 x3 x4 x5 x7 (s1 + s0) x9 x10 x11 x12 _ h k1 k2
  · rw [if_neg c35] at h
    refine g_iload d_Law_holds_341 14 rfl ?_
    refine g_iload d_Law_holds_343 13 rfl ?_
    refine g_iload d_Law_holds_345 12 rfl ?_
    refine g_isub d_Law_holds_347 ?_
    refine g_icmp_gt (tgt := 427) d_Law_holds_348 (by decide) (fun c34 => ?_) (fun c34 => ?_)
    · rw [if_pos c34] at h
      refine gGo_sub [1, 2, 3, 4, 5, 6, 7, 0, 8, 9, 10, 11] rfl ?_
      exact t_Law_holds_b427_227 hl0 hX hT hR (gLe hk (Nat.le_of_ble_eq_true rfl)) hb M x1 x2 x3 x4 x5 x7 (s1 + s0) x9 x10 x11 x12 _ h k1 k2
    · rw [if_neg c34] at h
      refine g_iload d_Law_holds_351 15 rfl ?_
      refine g_if_le (tgt := 360) d_Law_holds_353 (by decide) (fun c33 => ?_) (fun c33 => ?_)
      · rw [if_pos c33] at h
        refine g_iconst (v := 0) d_Law_holds_360 (by decide) ?_
        refine gGo_sub [1, 2, 3, 4, 5, 6, 7, 0, 8, 9, 10, 11, 12, 13, 14, 15, 16] rfl ?_
        exact t_Law_holds_b361_227 hl0 hX hT hR (gLe hk (Nat.le_of_ble_eq_true rfl)) hb M x1 x2 x3 x4 x5 x7 (s1 + s0) x9 x10 x11 x12 x13 x14 x15 x16 x17 0 _ h k1 k2
      · rw [if_neg c33] at h
        refine g_iconst (v := 1) d_Law_holds_356 (by decide) ?_
        refine g_goto (tgt := 361) d_Law_holds_357 (by decide) ?_
        refine gGo_sub [1, 2, 3, 4, 5, 6, 7, 0, 8, 9, 10, 11, 12, 13, 14, 15, 16] rfl ?_
        exact t_Law_holds_b361_227 hl0 hX hT hR (gLe hk (Nat.le_of_ble_eq_true rfl)) hb M x1 x2 x3 x4 x5 x7 (s1 + s0) x9 x10 x11 x12 x13 x14 x15 x16 x17 1 _ h k1 k2
noncomputable def f_Law_holds_s227 (M : gMem) (x1 : Int32) (x2 : Int32) (x3 : Int32) (x4 : Int32) (x5 : Int32) (x6 : Int32) (x7 : Int32) (x8 : Int32) (x9 : Int32) (x10 : Int32) (x11 : Int32) (x12 : Int32) : Option ((Int32 × Int32 × Int32 × Int32 × Int32 × Int32 × gMem) ⊕ (Int32 × Int32 × Int32 × Int32 × Int32 × Int32 × gMem)) :=
  if 4 ≤ x12 then
    some (.inr (x6, x7, x8, x10, x11, x12, M))
  else
    if x6 = 0 then
      some (.inr (x6, x7, x8, x10, x11, x12, M))
    else
      (f_Law_call M 4 x9 x12 0).bind fun q20 =>
      (f_Law_call q20.2 4 x9 x12 1).bind fun q21 =>
      (f_Law_call q21.2 4 x9 x12 2).bind fun q22 =>
      (f_Law_call q22.2 4 x9 x12 3).bind fun q23 =>
      (f_Law_call q23.2 4 x9 x12 4).bind fun q24 =>
      if q23.1 = 0 then
        f_Law_holds_b331_227 q24.2 x1 x2 x3 x4 x5 (x7 + q22.1) x9 (x10 + q20.1) (x11 + q21.1) x12 q20.1 q21.1 q22.1 q23.1 q24.1 0 x8
      else
        f_Law_holds_b331_227 q24.2 x1 x2 x3 x4 x5 (x7 + q22.1) x9 (x10 + q20.1) (x11 + q21.1) x12 q20.1 q21.1 q22.1 q23.1 q24.1 1 x8
theorem t_Law_holds_s227 {l : Launch} {ε : gEnv} (hl0 : l.stackTraces = false) (hX : gXw ε) {R : Room} {T : gTT} {Z : gZZ} {k0 n0 K ka kb : Nat} (hT : gTok T) (hR : gRm R k0 n0 K 155 6121) (hk : ka + 6 ≤ kb) (hb : kb ≤ K) (M : gMem) (x1 : Int32) (x2 : Int32) (x3 : Int32) (x4 : Int32) (x5 : Int32) (x6 : Int32) (x7 : Int32) (x8 : Int32) (x9 : Int32) (x10 : Int32) (x11 : Int32) (x12 : Int32) (res : ((Int32 × Int32 × Int32 × Int32 × Int32 × Int32 × gMem) ⊕ (Int32 × Int32 × Int32 × Int32 × Int32 × Int32 × gMem))) (h : f_Law_holds_s227 M x1 x2 x3 x4 x5 x6 x7 x8 x9 x10 x11 x12 = some res) (k1 : ∀ s0 : (Int32 × Int32 × Int32 × Int32 × Int32 × Int32 × gMem), res = .inl s0 → gGo l ε k_Law_holds R (gFg T Z k0 n0 kb) 227 [(0, .ref (ε.2.2.1 18 0)), (1, .int x1), (2, .int x2), (3, .int x3), (4, .int x4), (5, .int x5), (6, .int s0.1), (7, .int s0.2.1), (8, .int s0.2.2.1), (9, .int x9), (10, .int s0.2.2.2.1), (11, .int s0.2.2.2.2.1), (12, .int s0.2.2.2.2.2.1)] [] s0.2.2.2.2.2.2) (k2 : ∀ s0 : (Int32 × Int32 × Int32 × Int32 × Int32 × Int32 × gMem), res = .inr s0 → gGo l ε k_Law_holds R (gFg T Z k0 n0 kb) 436 [(0, .ref (ε.2.2.1 18 0)), (1, .int x1), (2, .int x2), (3, .int x3), (4, .int x4), (5, .int x5), (6, .int s0.1), (7, .int s0.2.1), (8, .int s0.2.2.1), (9, .int x9), (10, .int s0.2.2.2.1), (11, .int s0.2.2.2.2.1), (12, .int s0.2.2.2.2.2.1)] [] s0.2.2.2.2.2.2) : gGo l ε k_Law_holds R (gFg T Z k0 n0 ka) 227 [(0, .ref (ε.2.2.1 18 0)), (1, .int x1), (2, .int x2), (3, .int x3), (4, .int x4), (5, .int x5), (6, .int x6), (7, .int x7), (8, .int x8), (9, .int x9), (10, .int x10), (11, .int x11), (12, .int x12)] [] M := by
  unfold f_Law_holds_s227 at h
  refine g_iload d_Law_holds_227 12 rfl ?_
  refine g_iconst (v := 4) d_Law_holds_229 (by decide) ?_
  refine g_icmp_ge (tgt := 436) d_Law_holds_230 (by decide) (fun c38 => ?_) (fun c38 => ?_)
  · rw [if_pos c38] at h
    obtain rfl := Option.some.inj h
    exact g_useK hR (gLe0 hk) hb (k2 (x6, x7, x8, x10, x11, x12, M) rfl)
  · rw [if_neg c38] at h
    refine g_iload d_Law_holds_233 6 rfl ?_
    refine g_if_eq (tgt := 436) d_Law_holds_235 (by decide) (fun c37 => ?_) (fun c37 => ?_)
    · rw [if_pos c37] at h
      obtain rfl := Option.some.inj h
      exact g_useK hR (gLe0 hk) hb (k2 (x6, x7, x8, x10, x11, x12, M) rfl)
    · rw [if_neg c37] at h
      refine g_aload_n d_Law_holds_238 rfl 0 rfl ?_
      refine g_iconst (v := 4) d_Law_holds_239 (by decide) ?_
      refine g_iload d_Law_holds_240 9 rfl ?_
      refine g_iload d_Law_holds_242 12 rfl ?_
      refine g_iconst (v := 0) d_Law_holds_244 (by decide) ?_
      obtain ⟨q20, hq20, h⟩ := gOb h
      refine g_callK (kb := (ka + 1)) (As := [.ref (ε.2.2.1 18 0), .int 4, .int x9, .int x12, .int 0]) (rest := []) hT hR (fun _ => ctk_Law_call hl0 hX M 4 x9 x12 0 _ hq20) d_Law_holds_245 ca_Law_call w_281 rfl rfl (Nat.le_of_ble_eq_true rfl) ⟨(Nat.le_of_ble_eq_true rfl), (Nat.le_of_ble_eq_true rfl)⟩ (Nat.le_refl _) (Nat.le_trans (gLe hk (Nat.le_of_ble_eq_true rfl)) hb) ?_
      refine g_istore (L' := [(13, .int q20.1), (0, .ref (ε.2.2.1 18 0)), (1, .int x1), (2, .int x2), (3, .int x3), (4, .int x4), (5, .int x5), (6, .int x6), (7, .int x7), (8, .int x8), (9, .int x9), (10, .int x10), (11, .int x11), (12, .int x12)]) d_Law_holds_248 (by decide) rfl ?_
      refine g_aload_n d_Law_holds_250 rfl 1 rfl ?_
      refine g_iconst (v := 4) d_Law_holds_251 (by decide) ?_
      refine g_iload d_Law_holds_252 10 rfl ?_
      refine g_iload d_Law_holds_254 13 rfl ?_
      refine g_iconst (v := 1) d_Law_holds_256 (by decide) ?_
      obtain ⟨q21, hq21, h⟩ := gOb h
      refine g_callK (kb := (ka + 2)) (As := [.ref (ε.2.2.1 18 0), .int 4, .int x9, .int x12, .int 1]) (rest := []) hT hR (fun _ => ctk_Law_call hl0 hX q20.2 4 x9 x12 1 _ hq21) d_Law_holds_257 ca_Law_call w_281 rfl rfl (Nat.le_of_ble_eq_true rfl) ⟨(Nat.le_of_ble_eq_true rfl), (Nat.le_of_ble_eq_true rfl)⟩ (Nat.le_refl _) (Nat.le_trans (gLe hk (Nat.le_of_ble_eq_true rfl)) hb) ?_
      refine g_istore (L' := [(14, .int q21.1), (13, .int q20.1), (0, .ref (ε.2.2.1 18 0)), (1, .int x1), (2, .int x2), (3, .int x3), (4, .int x4), (5, .int x5), (6, .int x6), (7, .int x7), (8, .int x8), (9, .int x9), (10, .int x10), (11, .int x11), (12, .int x12)]) d_Law_holds_260 (by decide) rfl ?_
      refine g_aload_n d_Law_holds_262 rfl 2 rfl ?_
      refine g_iconst (v := 4) d_Law_holds_263 (by decide) ?_
      refine g_iload d_Law_holds_264 11 rfl ?_
      refine g_iload d_Law_holds_266 14 rfl ?_
      refine g_iconst (v := 2) d_Law_holds_268 (by decide) ?_
      obtain ⟨q22, hq22, h⟩ := gOb h
      refine g_callK (kb := (ka + 3)) (As := [.ref (ε.2.2.1 18 0), .int 4, .int x9, .int x12, .int 2]) (rest := []) hT hR (fun _ => ctk_Law_call hl0 hX q21.2 4 x9 x12 2 _ hq22) d_Law_holds_269 ca_Law_call w_281 rfl rfl (Nat.le_of_ble_eq_true rfl) ⟨(Nat.le_of_ble_eq_true rfl), (Nat.le_of_ble_eq_true rfl)⟩ (Nat.le_refl _) (Nat.le_trans (gLe hk (Nat.le_of_ble_eq_true rfl)) hb) ?_
      refine g_istore (L' := [(15, .int q22.1), (14, .int q21.1), (13, .int q20.1), (0, .ref (ε.2.2.1 18 0)), (1, .int x1), (2, .int x2), (3, .int x3), (4, .int x4), (5, .int x5), (6, .int x6), (7, .int x7), (8, .int x8), (9, .int x9), (10, .int x10), (11, .int x11), (12, .int x12)]) d_Law_holds_272 (by decide) rfl ?_
      refine g_aload_n d_Law_holds_274 rfl 3 rfl ?_
      refine g_iconst (v := 4) d_Law_holds_275 (by decide) ?_
      refine g_iload d_Law_holds_276 12 rfl ?_
      refine g_iload d_Law_holds_278 15 rfl ?_
      refine g_iconst (v := 3) d_Law_holds_280 (by decide) ?_
      obtain ⟨q23, hq23, h⟩ := gOb h
      refine g_callK (kb := (ka + 4)) (As := [.ref (ε.2.2.1 18 0), .int 4, .int x9, .int x12, .int 3]) (rest := []) hT hR (fun _ => ctk_Law_call hl0 hX q22.2 4 x9 x12 3 _ hq23) d_Law_holds_281 ca_Law_call w_281 rfl rfl (Nat.le_of_ble_eq_true rfl) ⟨(Nat.le_of_ble_eq_true rfl), (Nat.le_of_ble_eq_true rfl)⟩ (Nat.le_refl _) (Nat.le_trans (gLe hk (Nat.le_of_ble_eq_true rfl)) hb) ?_
      refine g_istore (L' := [(16, .int q23.1), (15, .int q22.1), (14, .int q21.1), (13, .int q20.1), (0, .ref (ε.2.2.1 18 0)), (1, .int x1), (2, .int x2), (3, .int x3), (4, .int x4), (5, .int x5), (6, .int x6), (7, .int x7), (8, .int x8), (9, .int x9), (10, .int x10), (11, .int x11), (12, .int x12)]) d_Law_holds_284 (by decide) rfl ?_
      refine g_aload_n d_Law_holds_286 rfl 4 rfl ?_
      refine g_iconst (v := 4) d_Law_holds_287 (by decide) ?_
      refine g_iload d_Law_holds_288 13 rfl ?_
      refine g_iload d_Law_holds_290 16 rfl ?_
      refine g_iconst (v := 4) d_Law_holds_292 (by decide) ?_
      obtain ⟨q24, hq24, h⟩ := gOb h
      refine g_callK (kb := (ka + 5)) (As := [.ref (ε.2.2.1 18 0), .int 4, .int x9, .int x12, .int 4]) (rest := []) hT hR (fun _ => ctk_Law_call hl0 hX q23.2 4 x9 x12 4 _ hq24) d_Law_holds_293 ca_Law_call w_281 rfl rfl (Nat.le_of_ble_eq_true rfl) ⟨(Nat.le_of_ble_eq_true rfl), (Nat.le_of_ble_eq_true rfl)⟩ (Nat.le_refl _) (Nat.le_trans (gLe hk (Nat.le_of_ble_eq_true rfl)) hb) ?_
      refine g_istore (L' := [(17, .int q24.1), (16, .int q23.1), (15, .int q22.1), (14, .int q21.1), (13, .int q20.1), (0, .ref (ε.2.2.1 18 0)), (1, .int x1), (2, .int x2), (3, .int x3), (4, .int x4), (5, .int x5), (6, .int x6), (7, .int x7), (8, .int x8), (9, .int x9), (10, .int x10), (11, .int x11), (12, .int x12)]) d_Law_holds_296 (by decide) rfl ?_
      refine g_iload d_Law_holds_298 15 rfl ?_
      refine g_iload d_Law_holds_300 4 rfl ?_
      refine g_iadd d_Law_holds_302 ?_
      refine g_istore (L' := [(10, .int (x10 + q20.1)), (17, .int q24.1), (16, .int q23.1), (15, .int q22.1), (14, .int q21.1), (13, .int q20.1), (0, .ref (ε.2.2.1 18 0)), (1, .int x1), (2, .int x2), (3, .int x3), (4, .int x4), (5, .int x5), (6, .int x6), (7, .int x7), (8, .int x8), (9, .int x9), (11, .int x11), (12, .int x12)]) d_Law_holds_303 (by decide) rfl ?_
      refine g_iload d_Law_holds_305 16 rfl ?_
      refine g_iload d_Law_holds_307 4 rfl ?_
      refine g_iadd d_Law_holds_309 ?_
      refine g_istore (L' := [(11, .int (x11 + q21.1)), (10, .int (x10 + q20.1)), (17, .int q24.1), (16, .int q23.1), (15, .int q22.1), (14, .int q21.1), (13, .int q20.1), (0, .ref (ε.2.2.1 18 0)), (1, .int x1), (2, .int x2), (3, .int x3), (4, .int x4), (5, .int x5), (6, .int x6), (7, .int x7), (8, .int x8), (9, .int x9), (12, .int x12)]) d_Law_holds_310 (by decide) rfl ?_
      refine g_iload d_Law_holds_312 14 rfl ?_
      refine g_iload d_Law_holds_314 4 rfl ?_
      refine g_iadd d_Law_holds_316 ?_
      refine g_istore (L' := [(7, .int (x7 + q22.1)), (11, .int (x11 + q21.1)), (10, .int (x10 + q20.1)), (17, .int q24.1), (16, .int q23.1), (15, .int q22.1), (14, .int q21.1), (13, .int q20.1), (0, .ref (ε.2.2.1 18 0)), (1, .int x1), (2, .int x2), (3, .int x3), (4, .int x4), (5, .int x5), (6, .int x6), (8, .int x8), (9, .int x9), (12, .int x12)]) d_Law_holds_317 (by decide) rfl ?_
      refine g_iload d_Law_holds_319 15 rfl ?_
      refine g_iload d_Law_holds_321 4 rfl ?_
      refine g_if_ne (tgt := 330) d_Law_holds_323 (by decide) (fun c36 => ?_) (fun c36 => ?_)
      · rw [if_neg c36] at h
        refine g_iconst (v := 1) d_Law_holds_330 (by decide) ?_
        refine gGo_sub [8, 9, 10, 11, 12, 13, 0, 16, 2, 1, 17, 7, 6, 5, 4, 3] rfl ?_
        exact t_Law_holds_b331_227 hl0 hX hT hR (gLe2 hk (Nat.le_of_ble_eq_true rfl)) hb q24.2 x1 x2 x3 x4 x5 (x7 + q22.1) x9 (x10 + q20.1) (x11 + q21.1) x12 q20.1 q21.1 q22.1 q23.1 q24.1 1 x8 _ h k1 k2
      · rw [if_pos c36] at h
        refine g_iconst (v := 0) d_Law_holds_326 (by decide) ?_
        refine g_goto (tgt := 331) d_Law_holds_327 (by decide) ?_
        refine gGo_sub [8, 9, 10, 11, 12, 13, 0, 16, 2, 1, 17, 7, 6, 5, 4, 3] rfl ?_
        exact t_Law_holds_b331_227 hl0 hX hT hR (gLe2 hk (Nat.le_of_ble_eq_true rfl)) hb q24.2 x1 x2 x3 x4 x5 (x7 + q22.1) x9 (x10 + q20.1) (x11 + q21.1) x12 q20.1 q21.1 q22.1 q23.1 q24.1 0 x8 _ h k1 k2
noncomputable def f_Law_holds_l227 (x1 : Int32) (x2 : Int32) (x3 : Int32) (x4 : Int32) (x5 : Int32) (x9 : Int32) (j : Nat) (s : (Int32 × Int32 × Int32 × Int32 × Int32 × Int32 × gMem)) : Option (Int32 × Int32 × Int32 × Int32 × Int32 × Int32 × gMem) := gIt (fun s => f_Law_holds_s227 s.2.2.2.2.2.2 x1 x2 x3 x4 x5 s.1 s.2.1 s.2.2.1 x9 s.2.2.2.1 s.2.2.2.2.1 s.2.2.2.2.2.1) j s
theorem t_Law_holds_l227 {l : Launch} {ε : gEnv} (hl0 : l.stackTraces = false) (hX : gXw ε) {R : Room} {T : gTT} {Z : gZZ} {k0 n0 K : Nat} (hT : gTok T) (hR : gRm R k0 n0 K 155 6121) (x1 : Int32) (x2 : Int32) (x3 : Int32) (x4 : Int32) (x5 : Int32) (x9 : Int32) : ∀ (j : Nat) (s s' : (Int32 × Int32 × Int32 × Int32 × Int32 × Int32 × gMem)) (ka : Nat), f_Law_holds_l227 x1 x2 x3 x4 x5 x9 j s = some s' → ka + 6 * j ≤ K → gGo l ε k_Law_holds R (gFg T Z k0 n0 (ka + 6 * j)) 436 [(0, .ref (ε.2.2.1 18 0)), (1, .int x1), (2, .int x2), (3, .int x3), (4, .int x4), (5, .int x5), (6, .int s'.1), (7, .int s'.2.1), (8, .int s'.2.2.1), (9, .int x9), (10, .int s'.2.2.2.1), (11, .int s'.2.2.2.2.1), (12, .int s'.2.2.2.2.2.1)] [] s'.2.2.2.2.2.2 → gGo l ε k_Law_holds R (gFg T Z k0 n0 ka) 227 [(0, .ref (ε.2.2.1 18 0)), (1, .int x1), (2, .int x2), (3, .int x3), (4, .int x4), (5, .int x5), (6, .int s.1), (7, .int s.2.1), (8, .int s.2.2.1), (9, .int x9), (10, .int s.2.2.2.1), (11, .int s.2.2.2.2.1), (12, .int s.2.2.2.2.2.1)] [] s.2.2.2.2.2.2 := by
  intro j
  induction j with
  | zero => intro s s' ka h; cases h
  | succ j ih =>
    intro s s' ka h hk kk
    rcases gIt_s h with ⟨s1, h1, h2⟩ | h1
    · refine t_Law_holds_s227 (kb := ka + 6) hl0 hX hT hR (Nat.le_refl _) (by omega) s.2.2.2.2.2.2 x1 x2 x3 x4 x5 s.1 s.2.1 s.2.2.1 x9 s.2.2.2.1 s.2.2.2.2.1 s.2.2.2.2.2.1 (.inl s1) h1 (fun s0 e => ?_) (fun s0 e => nomatch e)
      cases e
      refine ih s1 s' (ka + 6) h2 (by omega) ?_
      rw [show ka + 6 + 6 * j = ka + 6 * (j + 1) by omega]
      exact kk
    · refine t_Law_holds_s227 (kb := ka + 6) hl0 hX hT hR (Nat.le_refl _) (by omega) s.2.2.2.2.2.2 x1 x2 x3 x4 x5 s.1 s.2.1 s.2.2.1 x9 s.2.2.2.1 s.2.2.2.2.1 s.2.2.2.2.2.1 (.inr s') h1 (fun s0 e => nomatch e) (fun s0 e => ?_)
      cases e
      exact g_useK hR (by omega) hk kk
noncomputable def f_Law_holds_b468_207 (M : gMem) (x1 : Int32) (x2 : Int32) (x3 : Int32) (x4 : Int32) (x5 : Int32) (x7 : Int32) (x8 : Int32) (x9 : Int32) (s0 : Int32) : Option ((Int32 × Int32 × Int32 × Int32 × gMem) ⊕ (Int32 × Int32 × Int32 × Int32 × gMem)) :=
  some (.inl (s0, x7, x8, (x9 + 1), M))
theorem t_Law_holds_b468_207 {l : Launch} {ε : gEnv} (hl0 : l.stackTraces = false) (hX : gXw ε) {R : Room} {T : gTT} {Z : gZZ} {k0 n0 K ka kb : Nat} (hT : gTok T) (hR : gRm R k0 n0 K 155 6121) (hk : ka + 0 ≤ kb) (hb : kb ≤ K) (M : gMem) (x1 : Int32) (x2 : Int32) (x3 : Int32) (x4 : Int32) (x5 : Int32) (x7 : Int32) (x8 : Int32) (x9 : Int32) (s0 : Int32) (res : ((Int32 × Int32 × Int32 × Int32 × gMem) ⊕ (Int32 × Int32 × Int32 × Int32 × gMem))) (h : f_Law_holds_b468_207 M x1 x2 x3 x4 x5 x7 x8 x9 s0 = some res) (k1 : ∀ s0 : (Int32 × Int32 × Int32 × Int32 × gMem), res = .inl s0 → gGo l ε k_Law_holds R (gFg T Z k0 n0 kb) 207 [(0, .ref (ε.2.2.1 18 0)), (1, .int x1), (2, .int x2), (3, .int x3), (4, .int x4), (5, .int x5), (6, .int s0.1), (7, .int s0.2.1), (8, .int s0.2.2.1), (9, .int s0.2.2.2.1)] [] s0.2.2.2.2) (k2 : ∀ s0 : (Int32 × Int32 × Int32 × Int32 × gMem), res = .inr s0 → gGo l ε k_Law_holds R (gFg T Z k0 n0 kb) 476 [(0, .ref (ε.2.2.1 18 0)), (1, .int x1), (2, .int x2), (3, .int x3), (4, .int x4), (5, .int x5), (6, .int s0.1), (7, .int s0.2.1), (8, .int s0.2.2.1), (9, .int s0.2.2.2.1)] [] s0.2.2.2.2) : gGo l ε k_Law_holds R (gFg T Z k0 n0 ka) 468 [(0, .ref (ε.2.2.1 18 0)), (1, .int x1), (2, .int x2), (3, .int x3), (4, .int x4), (5, .int x5), (7, .int x7), (8, .int x8), (9, .int x9)] [.int s0] M := by
  unfold f_Law_holds_b468_207 at h
  refine g_istore (L' := [(6, .int s0), (0, .ref (ε.2.2.1 18 0)), (1, .int x1), (2, .int x2), (3, .int x3), (4, .int x4), (5, .int x5), (7, .int x7), (8, .int x8), (9, .int x9)]) d_Law_holds_468 (by decide) rfl ?_
  refine g_iinc (v := (x9 + 1)) (L' := [(9, .int (x9 + 1)), (6, .int s0), (0, .ref (ε.2.2.1 18 0)), (1, .int x1), (2, .int x2), (3, .int x3), (4, .int x4), (5, .int x5), (7, .int x7), (8, .int x8)]) d_Law_holds_470 (j := 9) rfl rfl (by decide) rfl ?_
  refine g_goto (tgt := 207) d_Law_holds_473 (by decide) ?_
  refine gGo_sub [2, 3, 4, 5, 6, 7, 1, 8, 9, 0] rfl ?_
  obtain rfl := Option.some.inj h
  exact g_useK hR (gLe0 hk) hb (k1 (s0, x7, x8, (x9 + 1), M) rfl)
noncomputable def f_Law_holds_b467_207 (M : gMem) (x1 : Int32) (x2 : Int32) (x3 : Int32) (x4 : Int32) (x5 : Int32) (x7 : Int32) (x8 : Int32) (x9 : Int32) : Option ((Int32 × Int32 × Int32 × Int32 × gMem) ⊕ (Int32 × Int32 × Int32 × Int32 × gMem)) :=
  f_Law_holds_b468_207 M x1 x2 x3 x4 x5 x7 x8 x9 0
theorem t_Law_holds_b467_207 {l : Launch} {ε : gEnv} (hl0 : l.stackTraces = false) (hX : gXw ε) {R : Room} {T : gTT} {Z : gZZ} {k0 n0 K ka kb : Nat} (hT : gTok T) (hR : gRm R k0 n0 K 155 6121) (hk : ka + 0 ≤ kb) (hb : kb ≤ K) (M : gMem) (x1 : Int32) (x2 : Int32) (x3 : Int32) (x4 : Int32) (x5 : Int32) (x7 : Int32) (x8 : Int32) (x9 : Int32) (res : ((Int32 × Int32 × Int32 × Int32 × gMem) ⊕ (Int32 × Int32 × Int32 × Int32 × gMem))) (h : f_Law_holds_b467_207 M x1 x2 x3 x4 x5 x7 x8 x9 = some res) (k1 : ∀ s0 : (Int32 × Int32 × Int32 × Int32 × gMem), res = .inl s0 → gGo l ε k_Law_holds R (gFg T Z k0 n0 kb) 207 [(0, .ref (ε.2.2.1 18 0)), (1, .int x1), (2, .int x2), (3, .int x3), (4, .int x4), (5, .int x5), (6, .int s0.1), (7, .int s0.2.1), (8, .int s0.2.2.1), (9, .int s0.2.2.2.1)] [] s0.2.2.2.2) (k2 : ∀ s0 : (Int32 × Int32 × Int32 × Int32 × gMem), res = .inr s0 → gGo l ε k_Law_holds R (gFg T Z k0 n0 kb) 476 [(0, .ref (ε.2.2.1 18 0)), (1, .int x1), (2, .int x2), (3, .int x3), (4, .int x4), (5, .int x5), (6, .int s0.1), (7, .int s0.2.1), (8, .int s0.2.2.1), (9, .int s0.2.2.2.1)] [] s0.2.2.2.2) : gGo l ε k_Law_holds R (gFg T Z k0 n0 ka) 467 [(0, .ref (ε.2.2.1 18 0)), (1, .int x1), (2, .int x2), (3, .int x3), (4, .int x4), (5, .int x5), (7, .int x7), (8, .int x8), (9, .int x9)] [] M := by
  unfold f_Law_holds_b467_207 at h
  refine g_iconst (v := 0) d_Law_holds_467 (by decide) ?_
  exact t_Law_holds_b468_207 hl0 hX hT hR (gLe hk (Nat.le_of_ble_eq_true rfl)) hb M x1 x2 x3 x4 x5 x7 x8 x9 0 _ h k1 k2
noncomputable def f_Law_holds_b453_207 (M : gMem) (x1 : Int32) (x2 : Int32) (x3 : Int32) (x4 : Int32) (x5 : Int32) (x7 : Int32) (x8 : Int32) (x9 : Int32) (x10 : Int32) (x11 : Int32) (s0 : Int32) (s1 : Int32) : Option ((Int32 × Int32 × Int32 × Int32 × gMem) ⊕ (Int32 × Int32 × Int32 × Int32 × gMem)) :=
  if s1 = s0 then
    if x11 < x10 then
      f_Law_holds_b467_207 M x1 x2 x3 x4 x5 x7 x8 x9
    else
      f_Law_holds_b468_207 M x1 x2 x3 x4 x5 x7 x8 x9 1
  else
    f_Law_holds_b467_207 M x1 x2 x3 x4 x5 x7 x8 x9
theorem t_Law_holds_b453_207 {l : Launch} {ε : gEnv} (hl0 : l.stackTraces = false) (hX : gXw ε) {R : Room} {T : gTT} {Z : gZZ} {k0 n0 K ka kb : Nat} (hT : gTok T) (hR : gRm R k0 n0 K 155 6121) (hk : ka + 0 ≤ kb) (hb : kb ≤ K) (M : gMem) (x1 : Int32) (x2 : Int32) (x3 : Int32) (x4 : Int32) (x5 : Int32) (x7 : Int32) (x8 : Int32) (x9 : Int32) (x10 : Int32) (x11 : Int32) (s0 : Int32) (s1 : Int32) (res : ((Int32 × Int32 × Int32 × Int32 × gMem) ⊕ (Int32 × Int32 × Int32 × Int32 × gMem))) (h : f_Law_holds_b453_207 M x1 x2 x3 x4 x5 x7 x8 x9 x10 x11 s0 s1 = some res) (k1 : ∀ s0 : (Int32 × Int32 × Int32 × Int32 × gMem), res = .inl s0 → gGo l ε k_Law_holds R (gFg T Z k0 n0 kb) 207 [(0, .ref (ε.2.2.1 18 0)), (1, .int x1), (2, .int x2), (3, .int x3), (4, .int x4), (5, .int x5), (6, .int s0.1), (7, .int s0.2.1), (8, .int s0.2.2.1), (9, .int s0.2.2.2.1)] [] s0.2.2.2.2) (k2 : ∀ s0 : (Int32 × Int32 × Int32 × Int32 × gMem), res = .inr s0 → gGo l ε k_Law_holds R (gFg T Z k0 n0 kb) 476 [(0, .ref (ε.2.2.1 18 0)), (1, .int x1), (2, .int x2), (3, .int x3), (4, .int x4), (5, .int x5), (6, .int s0.1), (7, .int s0.2.1), (8, .int s0.2.2.1), (9, .int s0.2.2.2.1)] [] s0.2.2.2.2) : gGo l ε k_Law_holds R (gFg T Z k0 n0 ka) 453 [(0, .ref (ε.2.2.1 18 0)), (1, .int x1), (2, .int x2), (3, .int x3), (4, .int x4), (5, .int x5), (7, .int x7), (8, .int x8), (9, .int x9), (10, .int x10), (11, .int x11)] [.int s0, .int s1] M := by
  unfold f_Law_holds_b453_207 at h
  refine g_icmp_ne (tgt := 467) d_Law_holds_453 (by decide) (fun c41 => ?_) (fun c41 => ?_)
  · rw [if_neg c41] at h
    refine gGo_sub [0, 1, 2, 3, 4, 5, 6, 7, 8] rfl ?_
    exact t_Law_holds_b467_207 hl0 hX hT hR (gLe hk (Nat.le_of_ble_eq_true rfl)) hb M x1 x2 x3 x4 x5 x7 x8 x9 _ h k1 k2
  · rw [if_pos c41] at h
    refine g_iload d_Law_holds_456 9 rfl ?_
    refine g_iload d_Law_holds_458 10 rfl ?_
    refine g_icmp_gt (tgt := 467) d_Law_holds_460 (by decide) (fun c40 => ?_) (fun c40 => ?_)
    · rw [if_pos c40] at h
      refine gGo_sub [0, 1, 2, 3, 4, 5, 6, 7, 8] rfl ?_
      exact t_Law_holds_b467_207 hl0 hX hT hR (gLe hk (Nat.le_of_ble_eq_true rfl)) hb M x1 x2 x3 x4 x5 x7 x8 x9 _ h k1 k2
    · rw [if_neg c40] at h
      refine g_iconst (v := 1) d_Law_holds_463 (by decide) ?_
      refine g_goto (tgt := 468) d_Law_holds_464 (by decide) ?_
      refine gGo_sub [0, 1, 2, 3, 4, 5, 6, 7, 8] rfl ?_
      exact t_Law_holds_b468_207 hl0 hX hT hR (gLe hk (Nat.le_of_ble_eq_true rfl)) hb M x1 x2 x3 x4 x5 x7 x8 x9 1 _ h k1 k2
noncomputable def f_Law_holds_s207 (M : gMem) (x1 : Int32) (x2 : Int32) (x3 : Int32) (x4 : Int32) (x5 : Int32) (x6 : Int32) (x7 : Int32) (x8 : Int32) (x9 : Int32) : Option ((Int32 × Int32 × Int32 × Int32 × gMem) ⊕ (Int32 × Int32 × Int32 × Int32 × gMem)) :=
  if 4 ≤ x9 then
    some (.inr (x6, x7, x8, x9, M))
  else
    if x6 = 0 then
      some (.inr (x6, x7, x8, x9, M))
    else
      (f_Law_holds_l227 x1 x2 x3 x4 x5 x9 5 (x6, x7, x8, 0, 0, 0, M)).bind fun q39 =>
      if q39.1 = 0 then
        f_Law_holds_b467_207 q39.2.2.2.2.2.2 x1 x2 x3 x4 x5 q39.2.1 q39.2.2.1 x9
      else
        if x1 = 0 then
          f_Law_holds_b453_207 q39.2.2.2.2.2.2 x1 x2 x3 x4 x5 q39.2.1 q39.2.2.1 x9 q39.2.2.2.1 q39.2.2.2.2.1 0 q39.2.2.2.2.1
        else
          f_Law_holds_b453_207 q39.2.2.2.2.2.2 x1 x2 x3 x4 x5 q39.2.1 q39.2.2.1 x9 q39.2.2.2.1 q39.2.2.2.2.1 8 q39.2.2.2.2.1
theorem t_Law_holds_s207 {l : Launch} {ε : gEnv} (hl0 : l.stackTraces = false) (hX : gXw ε) {R : Room} {T : gTT} {Z : gZZ} {k0 n0 K ka kb : Nat} (hT : gTok T) (hR : gRm R k0 n0 K 155 6121) (hk : ka + 30 ≤ kb) (hb : kb ≤ K) (M : gMem) (x1 : Int32) (x2 : Int32) (x3 : Int32) (x4 : Int32) (x5 : Int32) (x6 : Int32) (x7 : Int32) (x8 : Int32) (x9 : Int32) (res : ((Int32 × Int32 × Int32 × Int32 × gMem) ⊕ (Int32 × Int32 × Int32 × Int32 × gMem))) (h : f_Law_holds_s207 M x1 x2 x3 x4 x5 x6 x7 x8 x9 = some res) (k1 : ∀ s0 : (Int32 × Int32 × Int32 × Int32 × gMem), res = .inl s0 → gGo l ε k_Law_holds R (gFg T Z k0 n0 kb) 207 [(0, .ref (ε.2.2.1 18 0)), (1, .int x1), (2, .int x2), (3, .int x3), (4, .int x4), (5, .int x5), (6, .int s0.1), (7, .int s0.2.1), (8, .int s0.2.2.1), (9, .int s0.2.2.2.1)] [] s0.2.2.2.2) (k2 : ∀ s0 : (Int32 × Int32 × Int32 × Int32 × gMem), res = .inr s0 → gGo l ε k_Law_holds R (gFg T Z k0 n0 kb) 476 [(0, .ref (ε.2.2.1 18 0)), (1, .int x1), (2, .int x2), (3, .int x3), (4, .int x4), (5, .int x5), (6, .int s0.1), (7, .int s0.2.1), (8, .int s0.2.2.1), (9, .int s0.2.2.2.1)] [] s0.2.2.2.2) : gGo l ε k_Law_holds R (gFg T Z k0 n0 ka) 207 [(0, .ref (ε.2.2.1 18 0)), (1, .int x1), (2, .int x2), (3, .int x3), (4, .int x4), (5, .int x5), (6, .int x6), (7, .int x7), (8, .int x8), (9, .int x9)] [] M := by
  unfold f_Law_holds_s207 at h
  refine g_iload d_Law_holds_207 9 rfl ?_
  refine g_iconst (v := 4) d_Law_holds_209 (by decide) ?_
  refine g_icmp_ge (tgt := 476) d_Law_holds_210 (by decide) (fun c45 => ?_) (fun c45 => ?_)
  · rw [if_pos c45] at h
    obtain rfl := Option.some.inj h
    exact g_useK hR (gLe0 hk) hb (k2 (x6, x7, x8, x9, M) rfl)
  · rw [if_neg c45] at h
    refine g_iload d_Law_holds_213 6 rfl ?_
    refine g_if_eq (tgt := 476) d_Law_holds_215 (by decide) (fun c44 => ?_) (fun c44 => ?_)
    · rw [if_pos c44] at h
      obtain rfl := Option.some.inj h
      exact g_useK hR (gLe0 hk) hb (k2 (x6, x7, x8, x9, M) rfl)
    · rw [if_neg c44] at h
      refine g_iconst (v := 0) d_Law_holds_218 (by decide) ?_
      refine g_istore (L' := [(10, .int 0), (0, .ref (ε.2.2.1 18 0)), (1, .int x1), (2, .int x2), (3, .int x3), (4, .int x4), (5, .int x5), (6, .int x6), (7, .int x7), (8, .int x8), (9, .int x9)]) d_Law_holds_219 (by decide) rfl ?_
      refine g_iconst (v := 0) d_Law_holds_221 (by decide) ?_
      refine g_istore (L' := [(11, .int 0), (10, .int 0), (0, .ref (ε.2.2.1 18 0)), (1, .int x1), (2, .int x2), (3, .int x3), (4, .int x4), (5, .int x5), (6, .int x6), (7, .int x7), (8, .int x8), (9, .int x9)]) d_Law_holds_222 (by decide) rfl ?_
      refine g_iconst (v := 0) d_Law_holds_224 (by decide) ?_
      refine g_istore (L' := [(12, .int 0), (11, .int 0), (10, .int 0), (0, .ref (ε.2.2.1 18 0)), (1, .int x1), (2, .int x2), (3, .int x3), (4, .int x4), (5, .int x5), (6, .int x6), (7, .int x7), (8, .int x8), (9, .int x9)]) d_Law_holds_225 (by decide) rfl ?_
      obtain ⟨q39, hq39, h⟩ := gOb h
      refine gGo_sub [3, 4, 5, 6, 7, 8, 9, 10, 11, 12, 2, 1, 0] rfl ?_
      refine t_Law_holds_l227 hl0 hX hT hR x1 x2 x3 x4 x5 x9 5 (x6, x7, x8, 0, 0, 0, M) q39 ka hq39 (by omega) ?_
      refine g_useK hR (kb := (ka + 30)) (by omega) (Nat.le_trans (gLe hk (Nat.le_of_ble_eq_true rfl)) hb) ?_
      refine g_iload d_Law_holds_436 6 rfl ?_
      refine g_if_eq (tgt := 467) d_Law_holds_438 (by decide) (fun c43 => ?_) (fun c43 => ?_)
      · rw [if_pos c43] at h
        refine gGo_sub [0, 1, 2, 3, 4, 5, 7, 8, 9] rfl ?_
        exact t_Law_holds_b467_207 hl0 hX hT hR (gLe2 hk (Nat.le_of_ble_eq_true rfl)) hb q39.2.2.2.2.2.2 x1 x2 x3 x4 x5 q39.2.1 q39.2.2.1 x9 _ h k1 k2
      · rw [if_neg c43] at h
        refine g_iload d_Law_holds_441 11 rfl ?_
        refine g_iload_n d_Law_holds_443 rfl 1 rfl ?_
        refine g_if_ne (tgt := 451) d_Law_holds_444 (by decide) (fun c42 => ?_) (fun c42 => ?_)
        · rw [if_neg c42] at h
          refine g_bipush (v := 8) d_Law_holds_451 (by decide) ?_
          refine gGo_sub [0, 1, 2, 3, 4, 5, 7, 8, 9, 10, 11] rfl ?_
          exact t_Law_holds_b453_207 hl0 hX hT hR (gLe2 hk (Nat.le_of_ble_eq_true rfl)) hb q39.2.2.2.2.2.2 x1 x2 x3 x4 x5 q39.2.1 q39.2.2.1 x9 q39.2.2.2.1 q39.2.2.2.2.1 8 q39.2.2.2.2.1 _ h k1 k2
        · rw [if_pos c42] at h
          refine g_iconst (v := 0) d_Law_holds_447 (by decide) ?_
          refine g_goto (tgt := 453) d_Law_holds_448 (by decide) ?_
          refine gGo_sub [0, 1, 2, 3, 4, 5, 7, 8, 9, 10, 11] rfl ?_
          exact t_Law_holds_b453_207 hl0 hX hT hR (gLe2 hk (Nat.le_of_ble_eq_true rfl)) hb q39.2.2.2.2.2.2 x1 x2 x3 x4 x5 q39.2.1 q39.2.2.1 x9 q39.2.2.2.1 q39.2.2.2.2.1 0 q39.2.2.2.2.1 _ h k1 k2
noncomputable def f_Law_holds_l207 (x1 : Int32) (x2 : Int32) (x3 : Int32) (x4 : Int32) (x5 : Int32) (j : Nat) (s : (Int32 × Int32 × Int32 × Int32 × gMem)) : Option (Int32 × Int32 × Int32 × Int32 × gMem) := gIt (fun s => f_Law_holds_s207 s.2.2.2.2 x1 x2 x3 x4 x5 s.1 s.2.1 s.2.2.1 s.2.2.2.1) j s
theorem t_Law_holds_l207 {l : Launch} {ε : gEnv} (hl0 : l.stackTraces = false) (hX : gXw ε) {R : Room} {T : gTT} {Z : gZZ} {k0 n0 K : Nat} (hT : gTok T) (hR : gRm R k0 n0 K 155 6121) (x1 : Int32) (x2 : Int32) (x3 : Int32) (x4 : Int32) (x5 : Int32) : ∀ (j : Nat) (s s' : (Int32 × Int32 × Int32 × Int32 × gMem)) (ka : Nat), f_Law_holds_l207 x1 x2 x3 x4 x5 j s = some s' → ka + 30 * j ≤ K → gGo l ε k_Law_holds R (gFg T Z k0 n0 (ka + 30 * j)) 476 [(0, .ref (ε.2.2.1 18 0)), (1, .int x1), (2, .int x2), (3, .int x3), (4, .int x4), (5, .int x5), (6, .int s'.1), (7, .int s'.2.1), (8, .int s'.2.2.1), (9, .int s'.2.2.2.1)] [] s'.2.2.2.2 → gGo l ε k_Law_holds R (gFg T Z k0 n0 ka) 207 [(0, .ref (ε.2.2.1 18 0)), (1, .int x1), (2, .int x2), (3, .int x3), (4, .int x4), (5, .int x5), (6, .int s.1), (7, .int s.2.1), (8, .int s.2.2.1), (9, .int s.2.2.2.1)] [] s.2.2.2.2 := by
  intro j
  induction j with
  | zero => intro s s' ka h; cases h
  | succ j ih =>
    intro s s' ka h hk kk
    rcases gIt_s h with ⟨s1, h1, h2⟩ | h1
    · refine t_Law_holds_s207 (kb := ka + 30) hl0 hX hT hR (Nat.le_refl _) (by omega) s.2.2.2.2 x1 x2 x3 x4 x5 s.1 s.2.1 s.2.2.1 s.2.2.2.1 (.inl s1) h1 (fun s0 e => ?_) (fun s0 e => nomatch e)
      cases e
      refine ih s1 s' (ka + 30) h2 (by omega) ?_
      rw [show ka + 30 + 30 * j = ka + 30 * (j + 1) by omega]
      exact kk
    · refine t_Law_holds_s207 (kb := ka + 30) hl0 hX hT hR (Nat.le_refl _) (by omega) s.2.2.2.2 x1 x2 x3 x4 x5 s.1 s.2.1 s.2.2.1 s.2.2.2.1 (.inr s') h1 (fun s0 e => nomatch e) (fun s0 e => ?_)
      cases e
      exact g_useK hR (by omega) hk kk
noncomputable def f_Law_holds_b560_479 (M : gMem) (x1 : Int32) (x2 : Int32) (x3 : Int32) (x4 : Int32) (x5 : Int32) (x7 : Int32) (x8 : Int32) (x9 : Int32) (s0 : Int32) : Option ((Int32 × Int32 × Int32 × gMem) ⊕ (Int32 × Int32 × Int32 × gMem)) :=
  some (.inl (x5, s0, (x9 + 1), M))
theorem t_Law_holds_b560_479 {l : Launch} {ε : gEnv} (hl0 : l.stackTraces = false) (hX : gXw ε) {R : Room} {T : gTT} {Z : gZZ} {k0 n0 K ka kb : Nat} (hT : gTok T) (hR : gRm R k0 n0 K 155 6121) (hk : ka + 0 ≤ kb) (hb : kb ≤ K) (M : gMem) (x1 : Int32) (x2 : Int32) (x3 : Int32) (x4 : Int32) (x5 : Int32) (x7 : Int32) (x8 : Int32) (x9 : Int32) (s0 : Int32) (res : ((Int32 × Int32 × Int32 × gMem) ⊕ (Int32 × Int32 × Int32 × gMem))) (h : f_Law_holds_b560_479 M x1 x2 x3 x4 x5 x7 x8 x9 s0 = some res) (k1 : ∀ s0 : (Int32 × Int32 × Int32 × gMem), res = .inl s0 → gGo l ε k_Law_holds R (gFg T Z k0 n0 kb) 479 [(0, .ref (ε.2.2.1 18 0)), (1, .int x1), (2, .int x2), (3, .int x3), (4, .int x4), (5, .int s0.1), (6, .int s0.2.1), (7, .int x7), (8, .int x8), (9, .int s0.2.2.1)] [] s0.2.2.2) (k2 : ∀ s0 : (Int32 × Int32 × Int32 × gMem), res = .inr s0 → gGo l ε k_Law_holds R (gFg T Z k0 n0 kb) 568 [(0, .ref (ε.2.2.1 18 0)), (1, .int x1), (2, .int x2), (3, .int x3), (4, .int x4), (5, .int s0.1), (6, .int s0.2.1), (7, .int x7), (8, .int x8), (9, .int s0.2.2.1)] [] s0.2.2.2) : gGo l ε k_Law_holds R (gFg T Z k0 n0 ka) 560 [(0, .ref (ε.2.2.1 18 0)), (1, .int x1), (2, .int x2), (3, .int x3), (4, .int x4), (5, .int x5), (7, .int x7), (8, .int x8), (9, .int x9)] [.int s0] M := by
  unfold f_Law_holds_b560_479 at h
  refine g_istore (L' := [(6, .int s0), (0, .ref (ε.2.2.1 18 0)), (1, .int x1), (2, .int x2), (3, .int x3), (4, .int x4), (5, .int x5), (7, .int x7), (8, .int x8), (9, .int x9)]) d_Law_holds_560 (by decide) rfl ?_
  refine g_iinc (v := (x9 + 1)) (L' := [(9, .int (x9 + 1)), (6, .int s0), (0, .ref (ε.2.2.1 18 0)), (1, .int x1), (2, .int x2), (3, .int x3), (4, .int x4), (5, .int x5), (7, .int x7), (8, .int x8)]) d_Law_holds_562 (j := 9) rfl rfl (by decide) rfl ?_
  refine g_goto (tgt := 479) d_Law_holds_565 (by decide) ?_
  refine gGo_sub [2, 3, 4, 5, 6, 7, 1, 8, 9, 0] rfl ?_
  obtain rfl := Option.some.inj h
  exact g_useK hR (gLe0 hk) hb (k1 (x5, s0, (x9 + 1), M) rfl)
noncomputable def f_Law_holds_b559_479 (M : gMem) (x1 : Int32) (x2 : Int32) (x3 : Int32) (x4 : Int32) (x5 : Int32) (x7 : Int32) (x8 : Int32) (x9 : Int32) : Option ((Int32 × Int32 × Int32 × gMem) ⊕ (Int32 × Int32 × Int32 × gMem)) :=
  f_Law_holds_b560_479 M x1 x2 x3 x4 x5 x7 x8 x9 0
theorem t_Law_holds_b559_479 {l : Launch} {ε : gEnv} (hl0 : l.stackTraces = false) (hX : gXw ε) {R : Room} {T : gTT} {Z : gZZ} {k0 n0 K ka kb : Nat} (hT : gTok T) (hR : gRm R k0 n0 K 155 6121) (hk : ka + 0 ≤ kb) (hb : kb ≤ K) (M : gMem) (x1 : Int32) (x2 : Int32) (x3 : Int32) (x4 : Int32) (x5 : Int32) (x7 : Int32) (x8 : Int32) (x9 : Int32) (res : ((Int32 × Int32 × Int32 × gMem) ⊕ (Int32 × Int32 × Int32 × gMem))) (h : f_Law_holds_b559_479 M x1 x2 x3 x4 x5 x7 x8 x9 = some res) (k1 : ∀ s0 : (Int32 × Int32 × Int32 × gMem), res = .inl s0 → gGo l ε k_Law_holds R (gFg T Z k0 n0 kb) 479 [(0, .ref (ε.2.2.1 18 0)), (1, .int x1), (2, .int x2), (3, .int x3), (4, .int x4), (5, .int s0.1), (6, .int s0.2.1), (7, .int x7), (8, .int x8), (9, .int s0.2.2.1)] [] s0.2.2.2) (k2 : ∀ s0 : (Int32 × Int32 × Int32 × gMem), res = .inr s0 → gGo l ε k_Law_holds R (gFg T Z k0 n0 kb) 568 [(0, .ref (ε.2.2.1 18 0)), (1, .int x1), (2, .int x2), (3, .int x3), (4, .int x4), (5, .int s0.1), (6, .int s0.2.1), (7, .int x7), (8, .int x8), (9, .int s0.2.2.1)] [] s0.2.2.2) : gGo l ε k_Law_holds R (gFg T Z k0 n0 ka) 559 [(0, .ref (ε.2.2.1 18 0)), (1, .int x1), (2, .int x2), (3, .int x3), (4, .int x4), (5, .int x5), (7, .int x7), (8, .int x8), (9, .int x9)] [] M := by
  unfold f_Law_holds_b559_479 at h
  refine g_iconst (v := 0) d_Law_holds_559 (by decide) ?_
  exact t_Law_holds_b560_479 hl0 hX hT hR (gLe hk (Nat.le_of_ble_eq_true rfl)) hb M x1 x2 x3 x4 x5 x7 x8 x9 0 _ h k1 k2
noncomputable def f_Law_holds_b514_479 (M : gMem) (x1 : Int32) (x2 : Int32) (x3 : Int32) (x4 : Int32) (x7 : Int32) (x8 : Int32) (x9 : Int32) (x10 : Int32) (s0 : Int32) (s1 : Int32) : Option ((Int32 × Int32 × Int32 × gMem) ⊕ (Int32 × Int32 × Int32 × gMem)) :=
  if x10 = (-1) then
    f_Law_holds_b560_479 M x1 x2 x3 x4 (s1 + s0) x7 x8 x9 1
  else
    if (s1 + s0) = (x9 + 1) then
      (f_Law_call M 3 x10 2 0).bind fun q48 =>
      if q48.1 = ((4 * x4) + x9) then
        f_Law_holds_b560_479 q48.2 x1 x2 x3 x4 (s1 + s0) x7 x8 x9 1
      else
        f_Law_holds_b559_479 q48.2 x1 x2 x3 x4 (s1 + s0) x7 x8 x9
    else
      f_Law_holds_b559_479 M x1 x2 x3 x4 (s1 + s0) x7 x8 x9
theorem t_Law_holds_b514_479 {l : Launch} {ε : gEnv} (hl0 : l.stackTraces = false) (hX : gXw ε) {R : Room} {T : gTT} {Z : gZZ} {k0 n0 K ka kb : Nat} (hT : gTok T) (hR : gRm R k0 n0 K 155 6121) (hk : ka + 1 ≤ kb) (hb : kb ≤ K) (M : gMem) (x1 : Int32) (x2 : Int32) (x3 : Int32) (x4 : Int32) (x7 : Int32) (x8 : Int32) (x9 : Int32) (x10 : Int32) (s0 : Int32) (s1 : Int32) (res : ((Int32 × Int32 × Int32 × gMem) ⊕ (Int32 × Int32 × Int32 × gMem))) (h : f_Law_holds_b514_479 M x1 x2 x3 x4 x7 x8 x9 x10 s0 s1 = some res) (k1 : ∀ s0 : (Int32 × Int32 × Int32 × gMem), res = .inl s0 → gGo l ε k_Law_holds R (gFg T Z k0 n0 kb) 479 [(0, .ref (ε.2.2.1 18 0)), (1, .int x1), (2, .int x2), (3, .int x3), (4, .int x4), (5, .int s0.1), (6, .int s0.2.1), (7, .int x7), (8, .int x8), (9, .int s0.2.2.1)] [] s0.2.2.2) (k2 : ∀ s0 : (Int32 × Int32 × Int32 × gMem), res = .inr s0 → gGo l ε k_Law_holds R (gFg T Z k0 n0 kb) 568 [(0, .ref (ε.2.2.1 18 0)), (1, .int x1), (2, .int x2), (3, .int x3), (4, .int x4), (5, .int s0.1), (6, .int s0.2.1), (7, .int x7), (8, .int x8), (9, .int s0.2.2.1)] [] s0.2.2.2) : gGo l ε k_Law_holds R (gFg T Z k0 n0 ka) 514 [(0, .ref (ε.2.2.1 18 0)), (1, .int x1), (2, .int x2), (3, .int x3), (4, .int x4), (7, .int x7), (8, .int x8), (9, .int x9), (10, .int x10)] [.int s0, .int s1] M := by
  unfold f_Law_holds_b514_479 at h
  refine g_iadd d_Law_holds_514 ?_
  refine g_istore (L' := [(5, .int (s1 + s0)), (0, .ref (ε.2.2.1 18 0)), (1, .int x1), (2, .int x2), (3, .int x3), (4, .int x4), (7, .int x7), (8, .int x8), (9, .int x9), (10, .int x10)]) d_Law_holds_515 (by decide) rfl ?_
  refine g_iload d_Law_holds_517 9 rfl ?_
  refine g_iconst (v := -1) d_Law_holds_519 (by decide) ?_
  refine g_icmp_ne (tgt := 527) d_Law_holds_520 (by decide) (fun c51 => ?_) (fun c51 => ?_)
  · rw [if_neg c51] at h
    refine g_iload d_Law_holds_527 0 rfl ?_
    refine g_iload d_Law_holds_529 8 rfl ?_
    refine g_iconst (v := 1) d_Law_holds_531 (by decide) ?_
    refine g_iadd d_Law_holds_532 ?_
    refine g_icmp_ne (tgt := 559) d_Law_holds_533 (by decide) (fun c50 => ?_) (fun c50 => ?_)
    · rw [if_neg c50] at h
      refine gGo_sub [1, 2, 3, 4, 5, 0, 6, 7, 8] rfl ?_
      exact t_Law_holds_b559_479 hl0 hX hT hR (gLe hk (Nat.le_of_ble_eq_true rfl)) hb M x1 x2 x3 x4 (s1 + s0) x7 x8 x9 _ h k1 k2
    · rw [if_pos c50] at h
      refine g_aload_n d_Law_holds_536 rfl 1 rfl ?_
      refine g_iconst (v := 3) d_Law_holds_537 (by decide) ?_
      refine g_iload d_Law_holds_538 9 rfl ?_
      refine g_iconst (v := 2) d_Law_holds_540 (by decide) ?_
      refine g_iconst (v := 0) d_Law_holds_541 (by decide) ?_
      obtain ⟨q48, hq48, h⟩ := gOb h
      refine g_callK (kb := (ka + 1)) (As := [.ref (ε.2.2.1 18 0), .int 3, .int x10, .int 2, .int 0]) (rest := []) hT hR (fun _ => ctk_Law_call hl0 hX M 3 x10 2 0 _ hq48) d_Law_holds_542 ca_Law_call w_281 rfl rfl (Nat.le_of_ble_eq_true rfl) ⟨(Nat.le_of_ble_eq_true rfl), (Nat.le_of_ble_eq_true rfl)⟩ (Nat.le_refl _) (Nat.le_trans (gLe hk (Nat.le_of_ble_eq_true rfl)) hb) ?_
      refine g_iconst (v := 4) d_Law_holds_545 (by decide) ?_
      refine g_iload d_Law_holds_546 5 rfl ?_
      refine g_imul d_Law_holds_548 ?_
      refine g_iload d_Law_holds_549 8 rfl ?_
      refine g_iadd d_Law_holds_551 ?_
      refine g_icmp_ne (tgt := 559) d_Law_holds_552 (by decide) (fun c49 => ?_) (fun c49 => ?_)
      · rw [if_neg c49] at h
        refine gGo_sub [1, 2, 3, 4, 5, 0, 6, 7, 8] rfl ?_
        exact t_Law_holds_b559_479 hl0 hX hT hR (gLe2 hk (Nat.le_of_ble_eq_true rfl)) hb q48.2 x1 x2 x3 x4 (s1 + s0) x7 x8 x9 _ h k1 k2
      · rw [if_pos c49] at h
        refine g_iconst (v := 1) d_Law_holds_555 (by decide) ?_
        refine g_goto (tgt := 560) d_Law_holds_556 (by decide) ?_
        refine gGo_sub [1, 2, 3, 4, 5, 0, 6, 7, 8] rfl ?_
        exact t_Law_holds_b560_479 hl0 hX hT hR (gLe2 hk (Nat.le_of_ble_eq_true rfl)) hb q48.2 x1 x2 x3 x4 (s1 + s0) x7 x8 x9 1 _ h k1 k2
  · rw [if_pos c51] at h
    refine g_iconst (v := 1) d_Law_holds_523 (by decide) ?_
    refine g_goto (tgt := 560) d_Law_holds_524 (by decide) ?_
    refine gGo_sub [1, 2, 3, 4, 5, 0, 6, 7, 8] rfl ?_
    exact t_Law_holds_b560_479 hl0 hX hT hR (gLe hk (Nat.le_of_ble_eq_true rfl)) hb M x1 x2 x3 x4 (s1 + s0) x7 x8 x9 1 _ h k1 k2
noncomputable def f_Law_holds_s479 (M : gMem) (x1 : Int32) (x2 : Int32) (x3 : Int32) (x4 : Int32) (x5 : Int32) (x6 : Int32) (x7 : Int32) (x8 : Int32) (x9 : Int32) : Option ((Int32 × Int32 × Int32 × gMem) ⊕ (Int32 × Int32 × Int32 × gMem)) :=
  if 4 ≤ x9 then
    some (.inr (x5, x6, x9, M))
  else
    if x6 = 0 then
      some (.inr (x5, x6, x9, M))
    else
      (f_Law_call M 5 x9 0 0).bind fun q47 =>
      if q47.1 = (-1) then
        f_Law_holds_b514_479 q47.2 x1 x2 x3 x4 x7 x8 x9 q47.1 0 x5
      else
        f_Law_holds_b514_479 q47.2 x1 x2 x3 x4 x7 x8 x9 q47.1 1 x5
theorem t_Law_holds_s479 {l : Launch} {ε : gEnv} (hl0 : l.stackTraces = false) (hX : gXw ε) {R : Room} {T : gTT} {Z : gZZ} {k0 n0 K ka kb : Nat} (hT : gTok T) (hR : gRm R k0 n0 K 155 6121) (hk : ka + 2 ≤ kb) (hb : kb ≤ K) (M : gMem) (x1 : Int32) (x2 : Int32) (x3 : Int32) (x4 : Int32) (x5 : Int32) (x6 : Int32) (x7 : Int32) (x8 : Int32) (x9 : Int32) (res : ((Int32 × Int32 × Int32 × gMem) ⊕ (Int32 × Int32 × Int32 × gMem))) (h : f_Law_holds_s479 M x1 x2 x3 x4 x5 x6 x7 x8 x9 = some res) (k1 : ∀ s0 : (Int32 × Int32 × Int32 × gMem), res = .inl s0 → gGo l ε k_Law_holds R (gFg T Z k0 n0 kb) 479 [(0, .ref (ε.2.2.1 18 0)), (1, .int x1), (2, .int x2), (3, .int x3), (4, .int x4), (5, .int s0.1), (6, .int s0.2.1), (7, .int x7), (8, .int x8), (9, .int s0.2.2.1)] [] s0.2.2.2) (k2 : ∀ s0 : (Int32 × Int32 × Int32 × gMem), res = .inr s0 → gGo l ε k_Law_holds R (gFg T Z k0 n0 kb) 568 [(0, .ref (ε.2.2.1 18 0)), (1, .int x1), (2, .int x2), (3, .int x3), (4, .int x4), (5, .int s0.1), (6, .int s0.2.1), (7, .int x7), (8, .int x8), (9, .int s0.2.2.1)] [] s0.2.2.2) : gGo l ε k_Law_holds R (gFg T Z k0 n0 ka) 479 [(0, .ref (ε.2.2.1 18 0)), (1, .int x1), (2, .int x2), (3, .int x3), (4, .int x4), (5, .int x5), (6, .int x6), (7, .int x7), (8, .int x8), (9, .int x9)] [] M := by
  unfold f_Law_holds_s479 at h
  refine g_iload d_Law_holds_479 9 rfl ?_
  refine g_iconst (v := 4) d_Law_holds_481 (by decide) ?_
  refine g_icmp_ge (tgt := 568) d_Law_holds_482 (by decide) (fun c54 => ?_) (fun c54 => ?_)
  · rw [if_pos c54] at h
    obtain rfl := Option.some.inj h
    exact g_useK hR (gLe0 hk) hb (k2 (x5, x6, x9, M) rfl)
  · rw [if_neg c54] at h
    refine g_iload d_Law_holds_485 6 rfl ?_
    refine g_if_eq (tgt := 568) d_Law_holds_487 (by decide) (fun c53 => ?_) (fun c53 => ?_)
    · rw [if_pos c53] at h
      obtain rfl := Option.some.inj h
      exact g_useK hR (gLe0 hk) hb (k2 (x5, x6, x9, M) rfl)
    · rw [if_neg c53] at h
      refine g_aload_n d_Law_holds_490 rfl 0 rfl ?_
      refine g_iconst (v := 5) d_Law_holds_491 (by decide) ?_
      refine g_iload d_Law_holds_492 9 rfl ?_
      refine g_iconst (v := 0) d_Law_holds_494 (by decide) ?_
      refine g_iconst (v := 0) d_Law_holds_495 (by decide) ?_
      obtain ⟨q47, hq47, h⟩ := gOb h
      refine g_callK (kb := (ka + 1)) (As := [.ref (ε.2.2.1 18 0), .int 5, .int x9, .int 0, .int 0]) (rest := []) hT hR (fun _ => ctk_Law_call hl0 hX M 5 x9 0 0 _ hq47) d_Law_holds_496 ca_Law_call w_281 rfl rfl (Nat.le_of_ble_eq_true rfl) ⟨(Nat.le_of_ble_eq_true rfl), (Nat.le_of_ble_eq_true rfl)⟩ (Nat.le_refl _) (Nat.le_trans (gLe hk (Nat.le_of_ble_eq_true rfl)) hb) ?_
      refine g_istore (L' := [(10, .int q47.1), (0, .ref (ε.2.2.1 18 0)), (1, .int x1), (2, .int x2), (3, .int x3), (4, .int x4), (5, .int x5), (6, .int x6), (7, .int x7), (8, .int x8), (9, .int x9)]) d_Law_holds_499 (by decide) rfl ?_
      refine g_iload d_Law_holds_501 6 rfl ?_
      refine g_iload d_Law_holds_503 0 rfl ?_
      refine g_iconst (v := -1) d_Law_holds_505 (by decide) ?_
      refine g_icmp_ne (tgt := 513) d_Law_holds_506 (by decide) (fun c52 => ?_) (fun c52 => ?_)
      · rw [if_neg c52] at h
        refine g_iconst (v := 1) d_Law_holds_513 (by decide) ?_
        refine gGo_sub [1, 2, 3, 4, 5, 8, 9, 10, 0] rfl ?_
        exact t_Law_holds_b514_479 hl0 hX hT hR (gLe2 hk (Nat.le_of_ble_eq_true rfl)) hb q47.2 x1 x2 x3 x4 x7 x8 x9 q47.1 1 x5 _ h k1 k2
      · rw [if_pos c52] at h
        refine g_iconst (v := 0) d_Law_holds_509 (by decide) ?_
        refine g_goto (tgt := 514) d_Law_holds_510 (by decide) ?_
        refine gGo_sub [1, 2, 3, 4, 5, 8, 9, 10, 0] rfl ?_
        exact t_Law_holds_b514_479 hl0 hX hT hR (gLe2 hk (Nat.le_of_ble_eq_true rfl)) hb q47.2 x1 x2 x3 x4 x7 x8 x9 q47.1 0 x5 _ h k1 k2
noncomputable def f_Law_holds_l479 (x1 : Int32) (x2 : Int32) (x3 : Int32) (x4 : Int32) (x7 : Int32) (x8 : Int32) (j : Nat) (s : (Int32 × Int32 × Int32 × gMem)) : Option (Int32 × Int32 × Int32 × gMem) := gIt (fun s => f_Law_holds_s479 s.2.2.2 x1 x2 x3 x4 s.1 s.2.1 x7 x8 s.2.2.1) j s
theorem t_Law_holds_l479 {l : Launch} {ε : gEnv} (hl0 : l.stackTraces = false) (hX : gXw ε) {R : Room} {T : gTT} {Z : gZZ} {k0 n0 K : Nat} (hT : gTok T) (hR : gRm R k0 n0 K 155 6121) (x1 : Int32) (x2 : Int32) (x3 : Int32) (x4 : Int32) (x7 : Int32) (x8 : Int32) : ∀ (j : Nat) (s s' : (Int32 × Int32 × Int32 × gMem)) (ka : Nat), f_Law_holds_l479 x1 x2 x3 x4 x7 x8 j s = some s' → ka + 2 * j ≤ K → gGo l ε k_Law_holds R (gFg T Z k0 n0 (ka + 2 * j)) 568 [(0, .ref (ε.2.2.1 18 0)), (1, .int x1), (2, .int x2), (3, .int x3), (4, .int x4), (5, .int s'.1), (6, .int s'.2.1), (7, .int x7), (8, .int x8), (9, .int s'.2.2.1)] [] s'.2.2.2 → gGo l ε k_Law_holds R (gFg T Z k0 n0 ka) 479 [(0, .ref (ε.2.2.1 18 0)), (1, .int x1), (2, .int x2), (3, .int x3), (4, .int x4), (5, .int s.1), (6, .int s.2.1), (7, .int x7), (8, .int x8), (9, .int s.2.2.1)] [] s.2.2.2 := by
  intro j
  induction j with
  | zero => intro s s' ka h; cases h
  | succ j ih =>
    intro s s' ka h hk kk
    rcases gIt_s h with ⟨s1, h1, h2⟩ | h1
    · refine t_Law_holds_s479 (kb := ka + 2) hl0 hX hT hR (Nat.le_refl _) (by omega) s.2.2.2 x1 x2 x3 x4 s.1 s.2.1 x7 x8 s.2.2.1 (.inl s1) h1 (fun s0 e => ?_) (fun s0 e => nomatch e)
      cases e
      refine ih s1 s' (ka + 2) h2 (by omega) ?_
      rw [show ka + 2 + 2 * j = ka + 2 * (j + 1) by omega]
      exact kk
    · refine t_Law_holds_s479 (kb := ka + 2) hl0 hX hT hR (Nat.le_refl _) (by omega) s.2.2.2 x1 x2 x3 x4 s.1 s.2.1 x7 x8 s.2.2.1 (.inr s') h1 (fun s0 e => nomatch e) (fun s0 e => ?_)
      cases e
      exact g_useK hR (by omega) hk kk
noncomputable def f_Law_holds_b699_580 (M : gMem) (x1 : Int32) (x2 : Int32) (x3 : Int32) (x4 : Int32) (x5 : Int32) (x7 : Int32) (x8 : Int32) (x9 : Int32) (x11 : Int32) (x12 : Int32) (x13 : Int32) (s0 : Int32) : Option ((Int32 × Int32 × Int32 × Int32 × Int32 × gMem) ⊕ (Int32 × Int32 × Int32 × Int32 × Int32 × gMem)) :=
  some (.inl (s0, x9, x13, x11, (x12 + 1), M))
theorem t_Law_holds_b699_580 {l : Launch} {ε : gEnv} (hl0 : l.stackTraces = false) (hX : gXw ε) {R : Room} {T : gTT} {Z : gZZ} {k0 n0 K ka kb : Nat} (hT : gTok T) (hR : gRm R k0 n0 K 155 6121) (hk : ka + 0 ≤ kb) (hb : kb ≤ K) (M : gMem) (x1 : Int32) (x2 : Int32) (x3 : Int32) (x4 : Int32) (x5 : Int32) (x7 : Int32) (x8 : Int32) (x9 : Int32) (x11 : Int32) (x12 : Int32) (x13 : Int32) (s0 : Int32) (res : ((Int32 × Int32 × Int32 × Int32 × Int32 × gMem) ⊕ (Int32 × Int32 × Int32 × Int32 × Int32 × gMem))) (h : f_Law_holds_b699_580 M x1 x2 x3 x4 x5 x7 x8 x9 x11 x12 x13 s0 = some res) (k1 : ∀ s0 : (Int32 × Int32 × Int32 × Int32 × Int32 × gMem), res = .inl s0 → gGo l ε k_Law_holds R (gFg T Z k0 n0 kb) 580 [(0, .ref (ε.2.2.1 18 0)), (1, .int x1), (2, .int x2), (3, .int x3), (4, .int x4), (5, .int x5), (6, .int s0.1), (7, .int x7), (8, .int x8), (9, .int s0.2.1), (10, .int s0.2.2.1), (11, .int s0.2.2.2.1), (12, .int s0.2.2.2.2.1)] [] s0.2.2.2.2.2) (k2 : ∀ s0 : (Int32 × Int32 × Int32 × Int32 × Int32 × gMem), res = .inr s0 → gGo l ε k_Law_holds R (gFg T Z k0 n0 kb) 711 [(0, .ref (ε.2.2.1 18 0)), (1, .int x1), (2, .int x2), (3, .int x3), (4, .int x4), (5, .int x5), (6, .int s0.1), (7, .int x7), (8, .int x8), (9, .int s0.2.1), (10, .int s0.2.2.1), (11, .int s0.2.2.2.1), (12, .int s0.2.2.2.2.1)] [] s0.2.2.2.2.2) : gGo l ε k_Law_holds R (gFg T Z k0 n0 ka) 699 [(0, .ref (ε.2.2.1 18 0)), (1, .int x1), (2, .int x2), (3, .int x3), (4, .int x4), (5, .int x5), (7, .int x7), (8, .int x8), (9, .int x9), (11, .int x11), (12, .int x12), (13, .int x13)] [.int s0] M := by
  unfold f_Law_holds_b699_580 at h
  refine g_istore (L' := [(6, .int s0), (0, .ref (ε.2.2.1 18 0)), (1, .int x1), (2, .int x2), (3, .int x3), (4, .int x4), (5, .int x5), (7, .int x7), (8, .int x8), (9, .int x9), (11, .int x11), (12, .int x12), (13, .int x13)]) d_Law_holds_699 (by decide) rfl ?_
  refine g_iload d_Law_holds_701 12 rfl ?_
  refine g_istore (L' := [(10, .int x13), (6, .int s0), (0, .ref (ε.2.2.1 18 0)), (1, .int x1), (2, .int x2), (3, .int x3), (4, .int x4), (5, .int x5), (7, .int x7), (8, .int x8), (9, .int x9), (11, .int x11), (12, .int x12), (13, .int x13)]) d_Law_holds_703 (by decide) rfl ?_
  refine g_iinc (v := (x12 + 1)) (L' := [(12, .int (x12 + 1)), (10, .int x13), (6, .int s0), (0, .ref (ε.2.2.1 18 0)), (1, .int x1), (2, .int x2), (3, .int x3), (4, .int x4), (5, .int x5), (7, .int x7), (8, .int x8), (9, .int x9), (11, .int x11), (13, .int x13)]) d_Law_holds_705 (j := 12) rfl rfl (by decide) rfl ?_
  refine g_goto (tgt := 580) d_Law_holds_708 (by decide) ?_
  refine gGo_sub [3, 4, 5, 6, 7, 8, 2, 9, 10, 11, 1, 12, 0] rfl ?_
  obtain rfl := Option.some.inj h
  exact g_useK hR (gLe0 hk) hb (k1 (s0, x9, x13, x11, (x12 + 1), M) rfl)
noncomputable def f_Law_holds_b694_580 (M : gMem) (x1 : Int32) (x2 : Int32) (x3 : Int32) (x4 : Int32) (x5 : Int32) (x7 : Int32) (x8 : Int32) (x9 : Int32) (x11 : Int32) (x12 : Int32) (x13 : Int32) : Option ((Int32 × Int32 × Int32 × Int32 × Int32 × gMem) ⊕ (Int32 × Int32 × Int32 × Int32 × Int32 × gMem)) :=
  f_Law_holds_b699_580 M x1 x2 x3 x4 x5 x7 x8 x9 x11 x12 x13 1
theorem t_Law_holds_b694_580 {l : Launch} {ε : gEnv} (hl0 : l.stackTraces = false) (hX : gXw ε) {R : Room} {T : gTT} {Z : gZZ} {k0 n0 K ka kb : Nat} (hT : gTok T) (hR : gRm R k0 n0 K 155 6121) (hk : ka + 0 ≤ kb) (hb : kb ≤ K) (M : gMem) (x1 : Int32) (x2 : Int32) (x3 : Int32) (x4 : Int32) (x5 : Int32) (x7 : Int32) (x8 : Int32) (x9 : Int32) (x11 : Int32) (x12 : Int32) (x13 : Int32) (res : ((Int32 × Int32 × Int32 × Int32 × Int32 × gMem) ⊕ (Int32 × Int32 × Int32 × Int32 × Int32 × gMem))) (h : f_Law_holds_b694_580 M x1 x2 x3 x4 x5 x7 x8 x9 x11 x12 x13 = some res) (k1 : ∀ s0 : (Int32 × Int32 × Int32 × Int32 × Int32 × gMem), res = .inl s0 → gGo l ε k_Law_holds R (gFg T Z k0 n0 kb) 580 [(0, .ref (ε.2.2.1 18 0)), (1, .int x1), (2, .int x2), (3, .int x3), (4, .int x4), (5, .int x5), (6, .int s0.1), (7, .int x7), (8, .int x8), (9, .int s0.2.1), (10, .int s0.2.2.1), (11, .int s0.2.2.2.1), (12, .int s0.2.2.2.2.1)] [] s0.2.2.2.2.2) (k2 : ∀ s0 : (Int32 × Int32 × Int32 × Int32 × Int32 × gMem), res = .inr s0 → gGo l ε k_Law_holds R (gFg T Z k0 n0 kb) 711 [(0, .ref (ε.2.2.1 18 0)), (1, .int x1), (2, .int x2), (3, .int x3), (4, .int x4), (5, .int x5), (6, .int s0.1), (7, .int x7), (8, .int x8), (9, .int s0.2.1), (10, .int s0.2.2.1), (11, .int s0.2.2.2.1), (12, .int s0.2.2.2.2.1)] [] s0.2.2.2.2.2) : gGo l ε k_Law_holds R (gFg T Z k0 n0 ka) 694 [(0, .ref (ε.2.2.1 18 0)), (1, .int x1), (2, .int x2), (3, .int x3), (4, .int x4), (5, .int x5), (7, .int x7), (8, .int x8), (9, .int x9), (11, .int x11), (12, .int x12), (13, .int x13)] [] M := by
  unfold f_Law_holds_b694_580 at h
  refine g_iconst (v := 1) d_Law_holds_694 (by decide) ?_
  refine g_goto (tgt := 699) d_Law_holds_695 (by decide) ?_
  exact t_Law_holds_b699_580 hl0 hX hT hR (gLe hk (Nat.le_of_ble_eq_true rfl)) hb M x1 x2 x3 x4 x5 x7 x8 x9 x11 x12 x13 1 _ h k1 k2
noncomputable def f_Law_holds_b698_580 (M : gMem) (x1 : Int32) (x2 : Int32) (x3 : Int32) (x4 : Int32) (x5 : Int32) (x7 : Int32) (x8 : Int32) (x9 : Int32) (x11 : Int32) (x12 : Int32) (x13 : Int32) : Option ((Int32 × Int32 × Int32 × Int32 × Int32 × gMem) ⊕ (Int32 × Int32 × Int32 × Int32 × Int32 × gMem)) :=
  f_Law_holds_b699_580 M x1 x2 x3 x4 x5 x7 x8 x9 x11 x12 x13 0
theorem t_Law_holds_b698_580 {l : Launch} {ε : gEnv} (hl0 : l.stackTraces = false) (hX : gXw ε) {R : Room} {T : gTT} {Z : gZZ} {k0 n0 K ka kb : Nat} (hT : gTok T) (hR : gRm R k0 n0 K 155 6121) (hk : ka + 0 ≤ kb) (hb : kb ≤ K) (M : gMem) (x1 : Int32) (x2 : Int32) (x3 : Int32) (x4 : Int32) (x5 : Int32) (x7 : Int32) (x8 : Int32) (x9 : Int32) (x11 : Int32) (x12 : Int32) (x13 : Int32) (res : ((Int32 × Int32 × Int32 × Int32 × Int32 × gMem) ⊕ (Int32 × Int32 × Int32 × Int32 × Int32 × gMem))) (h : f_Law_holds_b698_580 M x1 x2 x3 x4 x5 x7 x8 x9 x11 x12 x13 = some res) (k1 : ∀ s0 : (Int32 × Int32 × Int32 × Int32 × Int32 × gMem), res = .inl s0 → gGo l ε k_Law_holds R (gFg T Z k0 n0 kb) 580 [(0, .ref (ε.2.2.1 18 0)), (1, .int x1), (2, .int x2), (3, .int x3), (4, .int x4), (5, .int x5), (6, .int s0.1), (7, .int x7), (8, .int x8), (9, .int s0.2.1), (10, .int s0.2.2.1), (11, .int s0.2.2.2.1), (12, .int s0.2.2.2.2.1)] [] s0.2.2.2.2.2) (k2 : ∀ s0 : (Int32 × Int32 × Int32 × Int32 × Int32 × gMem), res = .inr s0 → gGo l ε k_Law_holds R (gFg T Z k0 n0 kb) 711 [(0, .ref (ε.2.2.1 18 0)), (1, .int x1), (2, .int x2), (3, .int x3), (4, .int x4), (5, .int x5), (6, .int s0.1), (7, .int x7), (8, .int x8), (9, .int s0.2.1), (10, .int s0.2.2.1), (11, .int s0.2.2.2.1), (12, .int s0.2.2.2.2.1)] [] s0.2.2.2.2.2) : gGo l ε k_Law_holds R (gFg T Z k0 n0 ka) 698 [(0, .ref (ε.2.2.1 18 0)), (1, .int x1), (2, .int x2), (3, .int x3), (4, .int x4), (5, .int x5), (7, .int x7), (8, .int x8), (9, .int x9), (11, .int x11), (12, .int x12), (13, .int x13)] [] M := by
  unfold f_Law_holds_b698_580 at h
  refine g_iconst (v := 0) d_Law_holds_698 (by decide) ?_
  exact t_Law_holds_b699_580 hl0 hX hT hR (gLe hk (Nat.le_of_ble_eq_true rfl)) hb M x1 x2 x3 x4 x5 x7 x8 x9 x11 x12 x13 0 _ h k1 k2
noncomputable def f_Law_holds_b645_580 (M : gMem) (x1 : Int32) (x2 : Int32) (x3 : Int32) (x4 : Int32) (x5 : Int32) (x7 : Int32) (x8 : Int32) (x9 : Int32) (x10 : Int32) (x12 : Int32) (x13 : Int32) (s0 : Int32) : Option ((Int32 × Int32 × Int32 × Int32 × Int32 × gMem) ⊕ (Int32 × Int32 × Int32 × Int32 × Int32 × gMem)) :=
  if x13 = (-1) then
    f_Law_holds_b694_580 M x1 x2 x3 x4 x5 x7 x8 x9 s0 x12 x13
  else
    if x13 ≤ x10 then
      f_Law_holds_b698_580 M x1 x2 x3 x4 x5 x7 x8 x9 s0 x12 x13
    else
      (f_Law_call M 3 x13 0 0).bind fun q57 =>
      (f_Law_call q57.2 2 2 0 0).bind fun q58 =>
      if q57.1 = q58.1 then
        if x1 = 2 then
          if x9 = (x12 + 1) then
            f_Law_holds_b694_580 q58.2 x1 x2 x3 x4 x5 x7 x8 x9 s0 x12 x13
          else
            f_Law_holds_b698_580 q58.2 x1 x2 x3 x4 x5 x7 x8 x9 s0 x12 x13
        else
          f_Law_holds_b698_580 q58.2 x1 x2 x3 x4 x5 x7 x8 x9 s0 x12 x13
      else
        f_Law_holds_b698_580 q58.2 x1 x2 x3 x4 x5 x7 x8 x9 s0 x12 x13
theorem t_Law_holds_b645_580 {l : Launch} {ε : gEnv} (hl0 : l.stackTraces = false) (hX : gXw ε) {R : Room} {T : gTT} {Z : gZZ} {k0 n0 K ka kb : Nat} (hT : gTok T) (hR : gRm R k0 n0 K 155 6121) (hk : ka + 2 ≤ kb) (hb : kb ≤ K) (M : gMem) (x1 : Int32) (x2 : Int32) (x3 : Int32) (x4 : Int32) (x5 : Int32) (x7 : Int32) (x8 : Int32) (x9 : Int32) (x10 : Int32) (x12 : Int32) (x13 : Int32) (s0 : Int32) (res : ((Int32 × Int32 × Int32 × Int32 × Int32 × gMem) ⊕ (Int32 × Int32 × Int32 × Int32 × Int32 × gMem))) (h : f_Law_holds_b645_580 M x1 x2 x3 x4 x5 x7 x8 x9 x10 x12 x13 s0 = some res) (k1 : ∀ s0 : (Int32 × Int32 × Int32 × Int32 × Int32 × gMem), res = .inl s0 → gGo l ε k_Law_holds R (gFg T Z k0 n0 kb) 580 [(0, .ref (ε.2.2.1 18 0)), (1, .int x1), (2, .int x2), (3, .int x3), (4, .int x4), (5, .int x5), (6, .int s0.1), (7, .int x7), (8, .int x8), (9, .int s0.2.1), (10, .int s0.2.2.1), (11, .int s0.2.2.2.1), (12, .int s0.2.2.2.2.1)] [] s0.2.2.2.2.2) (k2 : ∀ s0 : (Int32 × Int32 × Int32 × Int32 × Int32 × gMem), res = .inr s0 → gGo l ε k_Law_holds R (gFg T Z k0 n0 kb) 711 [(0, .ref (ε.2.2.1 18 0)), (1, .int x1), (2, .int x2), (3, .int x3), (4, .int x4), (5, .int x5), (6, .int s0.1), (7, .int x7), (8, .int x8), (9, .int s0.2.1), (10, .int s0.2.2.1), (11, .int s0.2.2.2.1), (12, .int s0.2.2.2.2.1)] [] s0.2.2.2.2.2) : gGo l ε k_Law_holds R (gFg T Z k0 n0 ka) 645 [(0, .ref (ε.2.2.1 18 0)), (1, .int x1), (2, .int x2), (3, .int x3), (4, .int x4), (5, .int x5), (7, .int x7), (8, .int x8), (9, .int x9), (10, .int x10), (12, .int x12), (13, .int x13)] [.int s0] M := by
  unfold f_Law_holds_b645_580 at h
  refine g_istore (L' := [(11, .int s0), (0, .ref (ε.2.2.1 18 0)), (1, .int x1), (2, .int x2), (3, .int x3), (4, .int x4), (5, .int x5), (7, .int x7), (8, .int x8), (9, .int x9), (10, .int x10), (12, .int x12), (13, .int x13)]) d_Law_holds_645 (by decide) rfl ?_
  refine g_iload d_Law_holds_647 12 rfl ?_
  refine g_iconst (v := -1) d_Law_holds_649 (by decide) ?_
  refine g_icmp_eq (tgt := 694) d_Law_holds_650 (by decide) (fun c63 => ?_) (fun c63 => ?_)
  · rw [if_pos c63] at h
    refine gGo_sub [1, 2, 3, 4, 5, 6, 7, 8, 9, 0, 11, 12] rfl ?_
    exact t_Law_holds_b694_580 hl0 hX hT hR (gLe hk (Nat.le_of_ble_eq_true rfl)) hb M x1 x2 x3 x4 x5 x7 x8 x9 s0 x12 x13 _ h k1 k2
  · rw [if_neg c63] at h
    refine g_iload d_Law_holds_653 12 rfl ?_
    refine g_iload d_Law_holds_655 10 rfl ?_
    refine g_icmp_le (tgt := 698) d_Law_holds_657 (by decide) (fun c62 => ?_) (fun c62 => ?_)
    · rw [if_pos c62] at h
      refine gGo_sub [1, 2, 3, 4, 5, 6, 7, 8, 9, 0, 11, 12] rfl ?_
      exact t_Law_holds_b698_580 hl0 hX hT hR (gLe hk (Nat.le_of_ble_eq_true rfl)) hb M x1 x2 x3 x4 x5 x7 x8 x9 s0 x12 x13 _ h k1 k2
    · rw [if_neg c62] at h
      refine g_aload_n d_Law_holds_660 rfl 1 rfl ?_
      refine g_iconst (v := 3) d_Law_holds_661 (by decide) ?_
      refine g_iload d_Law_holds_662 12 rfl ?_
      refine g_iconst (v := 0) d_Law_holds_664 (by decide) ?_
      refine g_iconst (v := 0) d_Law_holds_665 (by decide) ?_
      obtain ⟨q57, hq57, h⟩ := gOb h
      refine g_callK (kb := (ka + 1)) (As := [.ref (ε.2.2.1 18 0), .int 3, .int x13, .int 0, .int 0]) (rest := []) hT hR (fun _ => ctk_Law_call hl0 hX M 3 x13 0 0 _ hq57) d_Law_holds_666 ca_Law_call w_281 rfl rfl (Nat.le_of_ble_eq_true rfl) ⟨(Nat.le_of_ble_eq_true rfl), (Nat.le_of_ble_eq_true rfl)⟩ (Nat.le_refl _) (Nat.le_trans (gLe hk (Nat.le_of_ble_eq_true rfl)) hb) ?_
      refine g_aload_n d_Law_holds_669 rfl 1 rfl ?_
      refine g_iconst (v := 2) d_Law_holds_670 (by decide) ?_
      refine g_iconst (v := 2) d_Law_holds_671 (by decide) ?_
      refine g_iconst (v := 0) d_Law_holds_672 (by decide) ?_
      refine g_iconst (v := 0) d_Law_holds_673 (by decide) ?_
      obtain ⟨q58, hq58, h⟩ := gOb h
      refine g_callK (kb := (ka + 2)) (As := [.ref (ε.2.2.1 18 0), .int 2, .int 2, .int 0, .int 0]) (rest := [.int q57.1]) hT hR (fun _ => ctk_Law_call hl0 hX q57.2 2 2 0 0 _ hq58) d_Law_holds_674 ca_Law_call w_281 rfl rfl (Nat.le_of_ble_eq_true rfl) ⟨(Nat.le_of_ble_eq_true rfl), (Nat.le_of_ble_eq_true rfl)⟩ (Nat.le_refl _) (Nat.le_trans (gLe hk (Nat.le_of_ble_eq_true rfl)) hb) ?_
      refine g_icmp_ne (tgt := 698) d_Law_holds_677 (by decide) (fun c61 => ?_) (fun c61 => ?_)
      · rw [if_neg c61] at h
        refine gGo_sub [1, 2, 3, 4, 5, 6, 7, 8, 9, 0, 11, 12] rfl ?_
        exact t_Law_holds_b698_580 hl0 hX hT hR (gLe2 hk (Nat.le_of_ble_eq_true rfl)) hb q58.2 x1 x2 x3 x4 x5 x7 x8 x9 s0 x12 x13 _ h k1 k2
      · rw [if_pos c61] at h
        refine g_iload_n d_Law_holds_680 rfl 2 rfl ?_
        refine g_iconst (v := 2) d_Law_holds_681 (by decide) ?_
        refine g_icmp_ne (tgt := 698) d_Law_holds_682 (by decide) (fun c60 => ?_) (fun c60 => ?_)
        · rw [if_neg c60] at h
          refine gGo_sub [1, 2, 3, 4, 5, 6, 7, 8, 9, 0, 11, 12] rfl ?_
          exact t_Law_holds_b698_580 hl0 hX hT hR (gLe2 hk (Nat.le_of_ble_eq_true rfl)) hb q58.2 x1 x2 x3 x4 x5 x7 x8 x9 s0 x12 x13 _ h k1 k2
        · rw [if_pos c60] at h
          refine g_iload d_Law_holds_685 9 rfl ?_
          refine g_iload d_Law_holds_687 11 rfl ?_
          refine g_iconst (v := 1) d_Law_holds_689 (by decide) ?_
          refine g_iadd d_Law_holds_690 ?_
          refine g_icmp_ne (tgt := 698) d_Law_holds_691 (by decide) (fun c59 => ?_) (fun c59 => ?_)
          · rw [if_neg c59] at h
            refine gGo_sub [1, 2, 3, 4, 5, 6, 7, 8, 9, 0, 11, 12] rfl ?_
            exact t_Law_holds_b698_580 hl0 hX hT hR (gLe2 hk (Nat.le_of_ble_eq_true rfl)) hb q58.2 x1 x2 x3 x4 x5 x7 x8 x9 s0 x12 x13 _ h k1 k2
          · rw [if_pos c59] at h
            refine gGo_sub [1, 2, 3, 4, 5, 6, 7, 8, 9, 0, 11, 12] rfl ?_
            exact t_Law_holds_b694_580 hl0 hX hT hR (gLe2 hk (Nat.le_of_ble_eq_true rfl)) hb q58.2 x1 x2 x3 x4 x5 x7 x8 x9 s0 x12 x13 _ h k1 k2
noncomputable def f_Law_holds_b640_580 (M : gMem) (x1 : Int32) (x2 : Int32) (x3 : Int32) (x4 : Int32) (x5 : Int32) (x7 : Int32) (x8 : Int32) (x9 : Int32) (x10 : Int32) (x12 : Int32) (x13 : Int32) : Option ((Int32 × Int32 × Int32 × Int32 × Int32 × gMem) ⊕ (Int32 × Int32 × Int32 × Int32 × Int32 × gMem)) :=
  f_Law_holds_b645_580 M x1 x2 x3 x4 x5 x7 x8 x9 x10 x12 x13 1
theorem t_Law_holds_b640_580 {l : Launch} {ε : gEnv} (hl0 : l.stackTraces = false) (hX : gXw ε) {R : Room} {T : gTT} {Z : gZZ} {k0 n0 K ka kb : Nat} (hT : gTok T) (hR : gRm R k0 n0 K 155 6121) (hk : ka + 2 ≤ kb) (hb : kb ≤ K) (M : gMem) (x1 : Int32) (x2 : Int32) (x3 : Int32) (x4 : Int32) (x5 : Int32) (x7 : Int32) (x8 : Int32) (x9 : Int32) (x10 : Int32) (x12 : Int32) (x13 : Int32) (res : ((Int32 × Int32 × Int32 × Int32 × Int32 × gMem) ⊕ (Int32 × Int32 × Int32 × Int32 × Int32 × gMem))) (h : f_Law_holds_b640_580 M x1 x2 x3 x4 x5 x7 x8 x9 x10 x12 x13 = some res) (k1 : ∀ s0 : (Int32 × Int32 × Int32 × Int32 × Int32 × gMem), res = .inl s0 → gGo l ε k_Law_holds R (gFg T Z k0 n0 kb) 580 [(0, .ref (ε.2.2.1 18 0)), (1, .int x1), (2, .int x2), (3, .int x3), (4, .int x4), (5, .int x5), (6, .int s0.1), (7, .int x7), (8, .int x8), (9, .int s0.2.1), (10, .int s0.2.2.1), (11, .int s0.2.2.2.1), (12, .int s0.2.2.2.2.1)] [] s0.2.2.2.2.2) (k2 : ∀ s0 : (Int32 × Int32 × Int32 × Int32 × Int32 × gMem), res = .inr s0 → gGo l ε k_Law_holds R (gFg T Z k0 n0 kb) 711 [(0, .ref (ε.2.2.1 18 0)), (1, .int x1), (2, .int x2), (3, .int x3), (4, .int x4), (5, .int x5), (6, .int s0.1), (7, .int x7), (8, .int x8), (9, .int s0.2.1), (10, .int s0.2.2.1), (11, .int s0.2.2.2.1), (12, .int s0.2.2.2.2.1)] [] s0.2.2.2.2.2) : gGo l ε k_Law_holds R (gFg T Z k0 n0 ka) 640 [(0, .ref (ε.2.2.1 18 0)), (1, .int x1), (2, .int x2), (3, .int x3), (4, .int x4), (5, .int x5), (7, .int x7), (8, .int x8), (9, .int x9), (10, .int x10), (12, .int x12), (13, .int x13)] [] M := by
  unfold f_Law_holds_b640_580 at h
  refine g_iconst (v := 1) d_Law_holds_640 (by decide) ?_
  refine g_goto (tgt := 645) d_Law_holds_641 (by decide) ?_
  exact t_Law_holds_b645_580 hl0 hX hT hR (gLe hk (Nat.le_of_ble_eq_true rfl)) hb M x1 x2 x3 x4 x5 x7 x8 x9 x10 x12 x13 1 _ h k1 k2
noncomputable def f_Law_holds_b644_580 (M : gMem) (x1 : Int32) (x2 : Int32) (x3 : Int32) (x4 : Int32) (x5 : Int32) (x7 : Int32) (x8 : Int32) (x9 : Int32) (x10 : Int32) (x12 : Int32) (x13 : Int32) : Option ((Int32 × Int32 × Int32 × Int32 × Int32 × gMem) ⊕ (Int32 × Int32 × Int32 × Int32 × Int32 × gMem)) :=
  f_Law_holds_b645_580 M x1 x2 x3 x4 x5 x7 x8 x9 x10 x12 x13 0
theorem t_Law_holds_b644_580 {l : Launch} {ε : gEnv} (hl0 : l.stackTraces = false) (hX : gXw ε) {R : Room} {T : gTT} {Z : gZZ} {k0 n0 K ka kb : Nat} (hT : gTok T) (hR : gRm R k0 n0 K 155 6121) (hk : ka + 2 ≤ kb) (hb : kb ≤ K) (M : gMem) (x1 : Int32) (x2 : Int32) (x3 : Int32) (x4 : Int32) (x5 : Int32) (x7 : Int32) (x8 : Int32) (x9 : Int32) (x10 : Int32) (x12 : Int32) (x13 : Int32) (res : ((Int32 × Int32 × Int32 × Int32 × Int32 × gMem) ⊕ (Int32 × Int32 × Int32 × Int32 × Int32 × gMem))) (h : f_Law_holds_b644_580 M x1 x2 x3 x4 x5 x7 x8 x9 x10 x12 x13 = some res) (k1 : ∀ s0 : (Int32 × Int32 × Int32 × Int32 × Int32 × gMem), res = .inl s0 → gGo l ε k_Law_holds R (gFg T Z k0 n0 kb) 580 [(0, .ref (ε.2.2.1 18 0)), (1, .int x1), (2, .int x2), (3, .int x3), (4, .int x4), (5, .int x5), (6, .int s0.1), (7, .int x7), (8, .int x8), (9, .int s0.2.1), (10, .int s0.2.2.1), (11, .int s0.2.2.2.1), (12, .int s0.2.2.2.2.1)] [] s0.2.2.2.2.2) (k2 : ∀ s0 : (Int32 × Int32 × Int32 × Int32 × Int32 × gMem), res = .inr s0 → gGo l ε k_Law_holds R (gFg T Z k0 n0 kb) 711 [(0, .ref (ε.2.2.1 18 0)), (1, .int x1), (2, .int x2), (3, .int x3), (4, .int x4), (5, .int x5), (6, .int s0.1), (7, .int x7), (8, .int x8), (9, .int s0.2.1), (10, .int s0.2.2.1), (11, .int s0.2.2.2.1), (12, .int s0.2.2.2.2.1)] [] s0.2.2.2.2.2) : gGo l ε k_Law_holds R (gFg T Z k0 n0 ka) 644 [(0, .ref (ε.2.2.1 18 0)), (1, .int x1), (2, .int x2), (3, .int x3), (4, .int x4), (5, .int x5), (7, .int x7), (8, .int x8), (9, .int x9), (10, .int x10), (12, .int x12), (13, .int x13)] [] M := by
  unfold f_Law_holds_b644_580 at h
  refine g_iconst (v := 0) d_Law_holds_644 (by decide) ?_
  exact t_Law_holds_b645_580 hl0 hX hT hR (gLe hk (Nat.le_of_ble_eq_true rfl)) hb M x1 x2 x3 x4 x5 x7 x8 x9 x10 x12 x13 0 _ h k1 k2
noncomputable def f_Law_holds_b617_580 (M : gMem) (x1 : Int32) (x2 : Int32) (x3 : Int32) (x4 : Int32) (x5 : Int32) (x7 : Int32) (x8 : Int32) (x10 : Int32) (x11 : Int32) (x12 : Int32) (x13 : Int32) (s0 : Int32) (s1 : Int32) : Option ((Int32 × Int32 × Int32 × Int32 × Int32 × gMem) ⊕ (Int32 × Int32 × Int32 × Int32 × Int32 × gMem)) :=
  if x11 = 0 then
    if x13 = (-1) then
      f_Law_holds_b644_580 M x1 x2 x3 x4 x5 x7 x8 (s1 + s0) x10 x12 x13
    else
      (f_DS_advice M).bind fun q64 =>
      if x13 = q64 then
        f_Law_holds_b640_580 M x1 x2 x3 x4 x5 x7 x8 (s1 + s0) x10 x12 x13
      else
        f_Law_holds_b644_580 M x1 x2 x3 x4 x5 x7 x8 (s1 + s0) x10 x12 x13
  else
    f_Law_holds_b640_580 M x1 x2 x3 x4 x5 x7 x8 (s1 + s0) x10 x12 x13
theorem t_Law_holds_b617_580 {l : Launch} {ε : gEnv} (hl0 : l.stackTraces = false) (hX : gXw ε) {R : Room} {T : gTT} {Z : gZZ} {k0 n0 K ka kb : Nat} (hT : gTok T) (hR : gRm R k0 n0 K 155 6121) (hk : ka + 2 ≤ kb) (hb : kb ≤ K) (M : gMem) (x1 : Int32) (x2 : Int32) (x3 : Int32) (x4 : Int32) (x5 : Int32) (x7 : Int32) (x8 : Int32) (x10 : Int32) (x11 : Int32) (x12 : Int32) (x13 : Int32) (s0 : Int32) (s1 : Int32) (res : ((Int32 × Int32 × Int32 × Int32 × Int32 × gMem) ⊕ (Int32 × Int32 × Int32 × Int32 × Int32 × gMem))) (h : f_Law_holds_b617_580 M x1 x2 x3 x4 x5 x7 x8 x10 x11 x12 x13 s0 s1 = some res) (k1 : ∀ s0 : (Int32 × Int32 × Int32 × Int32 × Int32 × gMem), res = .inl s0 → gGo l ε k_Law_holds R (gFg T Z k0 n0 kb) 580 [(0, .ref (ε.2.2.1 18 0)), (1, .int x1), (2, .int x2), (3, .int x3), (4, .int x4), (5, .int x5), (6, .int s0.1), (7, .int x7), (8, .int x8), (9, .int s0.2.1), (10, .int s0.2.2.1), (11, .int s0.2.2.2.1), (12, .int s0.2.2.2.2.1)] [] s0.2.2.2.2.2) (k2 : ∀ s0 : (Int32 × Int32 × Int32 × Int32 × Int32 × gMem), res = .inr s0 → gGo l ε k_Law_holds R (gFg T Z k0 n0 kb) 711 [(0, .ref (ε.2.2.1 18 0)), (1, .int x1), (2, .int x2), (3, .int x3), (4, .int x4), (5, .int x5), (6, .int s0.1), (7, .int x7), (8, .int x8), (9, .int s0.2.1), (10, .int s0.2.2.1), (11, .int s0.2.2.2.1), (12, .int s0.2.2.2.2.1)] [] s0.2.2.2.2.2) : gGo l ε k_Law_holds R (gFg T Z k0 n0 ka) 617 [(0, .ref (ε.2.2.1 18 0)), (1, .int x1), (2, .int x2), (3, .int x3), (4, .int x4), (5, .int x5), (7, .int x7), (8, .int x8), (10, .int x10), (11, .int x11), (12, .int x12), (13, .int x13)] [.int s0, .int s1] M := by
  unfold f_Law_holds_b617_580 at h
  refine g_iadd d_Law_holds_617 ?_
  refine g_istore (L' := [(9, .int (s1 + s0)), (0, .ref (ε.2.2.1 18 0)), (1, .int x1), (2, .int x2), (3, .int x3), (4, .int x4), (5, .int x5), (7, .int x7), (8, .int x8), (10, .int x10), (11, .int x11), (12, .int x12), (13, .int x13)]) d_Law_holds_618 (by decide) rfl ?_
  refine g_iload d_Law_holds_620 10 rfl ?_
  refine g_if_ne (tgt := 640) d_Law_holds_622 (by decide) (fun c67 => ?_) (fun c67 => ?_)
  · rw [if_neg c67] at h
    refine gGo_sub [1, 2, 3, 4, 5, 6, 7, 8, 0, 9, 11, 12] rfl ?_
    exact t_Law_holds_b640_580 hl0 hX hT hR (gLe hk (Nat.le_of_ble_eq_true rfl)) hb M x1 x2 x3 x4 x5 x7 x8 (s1 + s0) x10 x12 x13 _ h k1 k2
  · rw [if_pos c67] at h
    refine g_iload d_Law_holds_625 12 rfl ?_
    refine g_iconst (v := -1) d_Law_holds_627 (by decide) ?_
    refine g_icmp_eq (tgt := 644) d_Law_holds_628 (by decide) (fun c66 => ?_) (fun c66 => ?_)
    · rw [if_pos c66] at h
      refine gGo_sub [1, 2, 3, 4, 5, 6, 7, 8, 0, 9, 11, 12] rfl ?_
      exact t_Law_holds_b644_580 hl0 hX hT hR (gLe hk (Nat.le_of_ble_eq_true rfl)) hb M x1 x2 x3 x4 x5 x7 x8 (s1 + s0) x10 x12 x13 _ h k1 k2
    · rw [if_neg c66] at h
      refine g_iload d_Law_holds_631 12 rfl ?_
      refine g_aload_n d_Law_holds_633 rfl 1 rfl ?_
      obtain ⟨q64, hq64, h⟩ := gOb h
      refine g_callV_i (As := []) (rest := [.int x13]) (ct_DS_advice hX M _ hq64) d_Law_holds_634 ca_DS_advice w_939 (gXw_h0 hX) rfl rfl rfl (Nat.le_of_ble_eq_true rfl) ⟨Nat.le_trans (Nat.le_of_ble_eq_true rfl) hR.2.2.1, Nat.le_trans (Nat.le_of_ble_eq_true rfl) hR.2.2.2⟩ ?_
      refine g_icmp_ne (tgt := 644) d_Law_holds_637 (by decide) (fun c65 => ?_) (fun c65 => ?_)
      · rw [if_neg c65] at h
        refine gGo_sub [1, 2, 3, 4, 5, 6, 7, 8, 0, 9, 11, 12] rfl ?_
        exact t_Law_holds_b644_580 hl0 hX hT hR (gLe hk (Nat.le_of_ble_eq_true rfl)) hb M x1 x2 x3 x4 x5 x7 x8 (s1 + s0) x10 x12 x13 _ h k1 k2
      · rw [if_pos c65] at h
        refine gGo_sub [1, 2, 3, 4, 5, 6, 7, 8, 0, 9, 11, 12] rfl ?_
        exact t_Law_holds_b640_580 hl0 hX hT hR (gLe hk (Nat.le_of_ble_eq_true rfl)) hb M x1 x2 x3 x4 x5 x7 x8 (s1 + s0) x10 x12 x13 _ h k1 k2
noncomputable def f_Law_holds_s580 (M : gMem) (x1 : Int32) (x2 : Int32) (x3 : Int32) (x4 : Int32) (x5 : Int32) (x6 : Int32) (x7 : Int32) (x8 : Int32) (x9 : Int32) (x10 : Int32) (x11 : Int32) (x12 : Int32) : Option ((Int32 × Int32 × Int32 × Int32 × Int32 × gMem) ⊕ (Int32 × Int32 × Int32 × Int32 × Int32 × gMem)) :=
  if 8 ≤ x12 then
    some (.inr (x6, x9, x10, x11, x12, M))
  else
    if x6 = 0 then
      some (.inr (x6, x9, x10, x11, x12, M))
    else
      (f_Law_call M 10 x12 0 0).bind fun q56 =>
      if q56.1 = (-1) then
        f_Law_holds_b617_580 q56.2 x1 x2 x3 x4 x5 x7 x8 x10 x11 x12 q56.1 0 x9
      else
        f_Law_holds_b617_580 q56.2 x1 x2 x3 x4 x5 x7 x8 x10 x11 x12 q56.1 1 x9
theorem t_Law_holds_s580 {l : Launch} {ε : gEnv} (hl0 : l.stackTraces = false) (hX : gXw ε) {R : Room} {T : gTT} {Z : gZZ} {k0 n0 K ka kb : Nat} (hT : gTok T) (hR : gRm R k0 n0 K 155 6121) (hk : ka + 3 ≤ kb) (hb : kb ≤ K) (M : gMem) (x1 : Int32) (x2 : Int32) (x3 : Int32) (x4 : Int32) (x5 : Int32) (x6 : Int32) (x7 : Int32) (x8 : Int32) (x9 : Int32) (x10 : Int32) (x11 : Int32) (x12 : Int32) (res : ((Int32 × Int32 × Int32 × Int32 × Int32 × gMem) ⊕ (Int32 × Int32 × Int32 × Int32 × Int32 × gMem))) (h : f_Law_holds_s580 M x1 x2 x3 x4 x5 x6 x7 x8 x9 x10 x11 x12 = some res) (k1 : ∀ s0 : (Int32 × Int32 × Int32 × Int32 × Int32 × gMem), res = .inl s0 → gGo l ε k_Law_holds R (gFg T Z k0 n0 kb) 580 [(0, .ref (ε.2.2.1 18 0)), (1, .int x1), (2, .int x2), (3, .int x3), (4, .int x4), (5, .int x5), (6, .int s0.1), (7, .int x7), (8, .int x8), (9, .int s0.2.1), (10, .int s0.2.2.1), (11, .int s0.2.2.2.1), (12, .int s0.2.2.2.2.1)] [] s0.2.2.2.2.2) (k2 : ∀ s0 : (Int32 × Int32 × Int32 × Int32 × Int32 × gMem), res = .inr s0 → gGo l ε k_Law_holds R (gFg T Z k0 n0 kb) 711 [(0, .ref (ε.2.2.1 18 0)), (1, .int x1), (2, .int x2), (3, .int x3), (4, .int x4), (5, .int x5), (6, .int s0.1), (7, .int x7), (8, .int x8), (9, .int s0.2.1), (10, .int s0.2.2.1), (11, .int s0.2.2.2.1), (12, .int s0.2.2.2.2.1)] [] s0.2.2.2.2.2) : gGo l ε k_Law_holds R (gFg T Z k0 n0 ka) 580 [(0, .ref (ε.2.2.1 18 0)), (1, .int x1), (2, .int x2), (3, .int x3), (4, .int x4), (5, .int x5), (6, .int x6), (7, .int x7), (8, .int x8), (9, .int x9), (10, .int x10), (11, .int x11), (12, .int x12)] [] M := by
  unfold f_Law_holds_s580 at h
  refine g_iload d_Law_holds_580 12 rfl ?_
  refine g_bipush (v := 8) d_Law_holds_582 (by decide) ?_
  refine g_icmp_ge (tgt := 711) d_Law_holds_584 (by decide) (fun c70 => ?_) (fun c70 => ?_)
  · rw [if_pos c70] at h
    obtain rfl := Option.some.inj h
    exact g_useK hR (gLe0 hk) hb (k2 (x6, x9, x10, x11, x12, M) rfl)
  · rw [if_neg c70] at h
    refine g_iload d_Law_holds_587 6 rfl ?_
    refine g_if_eq (tgt := 711) d_Law_holds_589 (by decide) (fun c69 => ?_) (fun c69 => ?_)
    · rw [if_pos c69] at h
      obtain rfl := Option.some.inj h
      exact g_useK hR (gLe0 hk) hb (k2 (x6, x9, x10, x11, x12, M) rfl)
    · rw [if_neg c69] at h
      refine g_aload_n d_Law_holds_592 rfl 0 rfl ?_
      refine g_bipush (v := 10) d_Law_holds_593 (by decide) ?_
      refine g_iload d_Law_holds_595 12 rfl ?_
      refine g_iconst (v := 0) d_Law_holds_597 (by decide) ?_
      refine g_iconst (v := 0) d_Law_holds_598 (by decide) ?_
      obtain ⟨q56, hq56, h⟩ := gOb h
      refine g_callK (kb := (ka + 1)) (As := [.ref (ε.2.2.1 18 0), .int 10, .int x12, .int 0, .int 0]) (rest := []) hT hR (fun _ => ctk_Law_call hl0 hX M 10 x12 0 0 _ hq56) d_Law_holds_599 ca_Law_call w_281 rfl rfl (Nat.le_of_ble_eq_true rfl) ⟨(Nat.le_of_ble_eq_true rfl), (Nat.le_of_ble_eq_true rfl)⟩ (Nat.le_refl _) (Nat.le_trans (gLe hk (Nat.le_of_ble_eq_true rfl)) hb) ?_
      refine g_istore (L' := [(13, .int q56.1), (0, .ref (ε.2.2.1 18 0)), (1, .int x1), (2, .int x2), (3, .int x3), (4, .int x4), (5, .int x5), (6, .int x6), (7, .int x7), (8, .int x8), (9, .int x9), (10, .int x10), (11, .int x11), (12, .int x12)]) d_Law_holds_602 (by decide) rfl ?_
      refine g_iload d_Law_holds_604 10 rfl ?_
      refine g_iload d_Law_holds_606 0 rfl ?_
      refine g_iconst (v := -1) d_Law_holds_608 (by decide) ?_
      refine g_icmp_ne (tgt := 616) d_Law_holds_609 (by decide) (fun c68 => ?_) (fun c68 => ?_)
      · rw [if_neg c68] at h
        refine g_iconst (v := 1) d_Law_holds_616 (by decide) ?_
        refine gGo_sub [1, 2, 3, 4, 5, 6, 8, 9, 11, 12, 13, 0] rfl ?_
        exact t_Law_holds_b617_580 hl0 hX hT hR (gLe2 hk (Nat.le_of_ble_eq_true rfl)) hb q56.2 x1 x2 x3 x4 x5 x7 x8 x10 x11 x12 q56.1 1 x9 _ h k1 k2
      · rw [if_pos c68] at h
        refine g_iconst (v := 0) d_Law_holds_612 (by decide) ?_
        refine g_goto (tgt := 617) d_Law_holds_613 (by decide) ?_
        refine gGo_sub [1, 2, 3, 4, 5, 6, 8, 9, 11, 12, 13, 0] rfl ?_
        exact t_Law_holds_b617_580 hl0 hX hT hR (gLe2 hk (Nat.le_of_ble_eq_true rfl)) hb q56.2 x1 x2 x3 x4 x5 x7 x8 x10 x11 x12 q56.1 0 x9 _ h k1 k2
noncomputable def f_Law_holds_l580 (x1 : Int32) (x2 : Int32) (x3 : Int32) (x4 : Int32) (x5 : Int32) (x7 : Int32) (x8 : Int32) (j : Nat) (s : (Int32 × Int32 × Int32 × Int32 × Int32 × gMem)) : Option (Int32 × Int32 × Int32 × Int32 × Int32 × gMem) := gIt (fun s => f_Law_holds_s580 s.2.2.2.2.2 x1 x2 x3 x4 x5 s.1 x7 x8 s.2.1 s.2.2.1 s.2.2.2.1 s.2.2.2.2.1) j s
theorem t_Law_holds_l580 {l : Launch} {ε : gEnv} (hl0 : l.stackTraces = false) (hX : gXw ε) {R : Room} {T : gTT} {Z : gZZ} {k0 n0 K : Nat} (hT : gTok T) (hR : gRm R k0 n0 K 155 6121) (x1 : Int32) (x2 : Int32) (x3 : Int32) (x4 : Int32) (x5 : Int32) (x7 : Int32) (x8 : Int32) : ∀ (j : Nat) (s s' : (Int32 × Int32 × Int32 × Int32 × Int32 × gMem)) (ka : Nat), f_Law_holds_l580 x1 x2 x3 x4 x5 x7 x8 j s = some s' → ka + 3 * j ≤ K → gGo l ε k_Law_holds R (gFg T Z k0 n0 (ka + 3 * j)) 711 [(0, .ref (ε.2.2.1 18 0)), (1, .int x1), (2, .int x2), (3, .int x3), (4, .int x4), (5, .int x5), (6, .int s'.1), (7, .int x7), (8, .int x8), (9, .int s'.2.1), (10, .int s'.2.2.1), (11, .int s'.2.2.2.1), (12, .int s'.2.2.2.2.1)] [] s'.2.2.2.2.2 → gGo l ε k_Law_holds R (gFg T Z k0 n0 ka) 580 [(0, .ref (ε.2.2.1 18 0)), (1, .int x1), (2, .int x2), (3, .int x3), (4, .int x4), (5, .int x5), (6, .int s.1), (7, .int x7), (8, .int x8), (9, .int s.2.1), (10, .int s.2.2.1), (11, .int s.2.2.2.1), (12, .int s.2.2.2.2.1)] [] s.2.2.2.2.2 := by
  intro j
  induction j with
  | zero => intro s s' ka h; cases h
  | succ j ih =>
    intro s s' ka h hk kk
    rcases gIt_s h with ⟨s1, h1, h2⟩ | h1
    · refine t_Law_holds_s580 (kb := ka + 3) hl0 hX hT hR (Nat.le_refl _) (by omega) s.2.2.2.2.2 x1 x2 x3 x4 x5 s.1 x7 x8 s.2.1 s.2.2.1 s.2.2.2.1 s.2.2.2.2.1 (.inl s1) h1 (fun s0 e => ?_) (fun s0 e => nomatch e)
      cases e
      refine ih s1 s' (ka + 3) h2 (by omega) ?_
      rw [show ka + 3 + 3 * j = ka + 3 * (j + 1) by omega]
      exact kk
    · refine t_Law_holds_s580 (kb := ka + 3) hl0 hX hT hR (Nat.le_refl _) (by omega) s.2.2.2.2.2 x1 x2 x3 x4 x5 s.1 x7 x8 s.2.1 s.2.2.1 s.2.2.2.1 s.2.2.2.2.1 (.inr s') h1 (fun s0 e => nomatch e) (fun s0 e => ?_)
      cases e
      exact g_useK hR (by omega) hk kk
noncomputable def f_Law_holds_b904 (M : gMem) (x1 : Int32) (x4 : Int32) (s0 : Int32) (s1 : Int32) : Option (Int32 × gMem) :=
  if s1 = s0 then
    if x1 = 3 then
      if x4 = 8 then
        (gBl 1).bind fun _ =>
        some (1, M)
      else
        (f_Law_call M 2 3 0 0).bind fun q89 =>
        if q89.1 = 0 then
          (gBl 1).bind fun _ =>
          some (1, q89.2)
        else
          (gBl 0).bind fun _ =>
          some (0, q89.2)
    else
      (gBl 1).bind fun _ =>
      some (1, M)
  else
    (gBl 0).bind fun _ =>
    some (0, M)
theorem t_Law_holds_b904 {l : Launch} {ε : gEnv} (hl0 : l.stackTraces = false) (hX : gXw ε) {R : Room} {K ka : Nat} (hR : gRm R 0 0 K 155 6121) (hk : ka + 1 ≤ K) (M : gMem) (x1 : Int32) (x4 : Int32) (s0 : Int32) (s1 : Int32) (r : Int32 × gMem) (h : f_Law_holds_b904 M x1 x4 s0 s1 = some r) : gGo l ε k_Law_holds R (gFk ε K (some (.int r.1)) r.2 ka) 904 [(0, .ref (ε.2.2.1 18 0)), (1, .int x1), (4, .int x4)] [.int s0, .int s1] M := by
  unfold f_Law_holds_b904 at h
  refine g_icmp_ne (tgt := 934) d_Law_holds_904 (by decide) (fun c95 => ?_) (fun c95 => ?_)
  · rw [if_neg c95] at h
    refine g_iconst (v := 0) d_Law_holds_934 (by decide) ?_
    obtain ⟨z86, hz86, h⟩ := gOb h
    obtain rfl := Option.some.inj h
    exact g_zretK hR d_Law_holds_935 rfl hz86 (gLe0 hk)
  · rw [if_pos c95] at h
    refine g_iload_n d_Law_holds_907 rfl 1 rfl ?_
    refine g_iconst (v := 3) d_Law_holds_908 (by decide) ?_
    refine g_icmp_ne (tgt := 930) d_Law_holds_909 (by decide) (fun c94 => ?_) (fun c94 => ?_)
    · rw [if_neg c94] at h
      refine g_iconst (v := 1) d_Law_holds_930 (by decide) ?_
      refine g_goto (tgt := 935) d_Law_holds_931 (by decide) ?_
      obtain ⟨z87, hz87, h⟩ := gOb h
      obtain rfl := Option.some.inj h
      exact g_zretK hR d_Law_holds_935 rfl hz87 (gLe0 hk)
    · rw [if_pos c94] at h
      refine g_iload d_Law_holds_912 2 rfl ?_
      refine g_bipush (v := 8) d_Law_holds_914 (by decide) ?_
      refine g_icmp_eq (tgt := 930) d_Law_holds_916 (by decide) (fun c93 => ?_) (fun c93 => ?_)
      · rw [if_pos c93] at h
        refine g_iconst (v := 1) d_Law_holds_930 (by decide) ?_
        refine g_goto (tgt := 935) d_Law_holds_931 (by decide) ?_
        obtain ⟨z88, hz88, h⟩ := gOb h
        obtain rfl := Option.some.inj h
        exact g_zretK hR d_Law_holds_935 rfl hz88 (gLe0 hk)
      · rw [if_neg c93] at h
        refine g_aload_n d_Law_holds_919 rfl 0 rfl ?_
        refine g_iconst (v := 2) d_Law_holds_920 (by decide) ?_
        refine g_iconst (v := 3) d_Law_holds_921 (by decide) ?_
        refine g_iconst (v := 0) d_Law_holds_922 (by decide) ?_
        refine g_iconst (v := 0) d_Law_holds_923 (by decide) ?_
        obtain ⟨q89, hq89, h⟩ := gOb h
        refine g_callK (kb := (ka + 1)) (As := [.ref (ε.2.2.1 18 0), .int 2, .int 3, .int 0, .int 0]) (rest := []) gTk_ok hR (fun _ => ctk_Law_call hl0 hX M 2 3 0 0 _ hq89) d_Law_holds_924 ca_Law_call w_281 rfl rfl (Nat.le_of_ble_eq_true rfl) ⟨(Nat.le_of_ble_eq_true rfl), (Nat.le_of_ble_eq_true rfl)⟩ (Nat.le_refl _) (gLe hk (Nat.le_of_ble_eq_true rfl)) ?_
        refine g_if_ne (tgt := 934) d_Law_holds_927 (by decide) (fun c92 => ?_) (fun c92 => ?_)
        · rw [if_neg c92] at h
          refine g_iconst (v := 0) d_Law_holds_934 (by decide) ?_
          obtain ⟨z90, hz90, h⟩ := gOb h
          obtain rfl := Option.some.inj h
          exact g_zretK hR d_Law_holds_935 rfl hz90 (gLe hk (Nat.le_of_ble_eq_true rfl))
        · rw [if_pos c92] at h
          refine g_iconst (v := 1) d_Law_holds_930 (by decide) ?_
          refine g_goto (tgt := 935) d_Law_holds_931 (by decide) ?_
          obtain ⟨z91, hz91, h⟩ := gOb h
          obtain rfl := Option.some.inj h
          exact g_zretK hR d_Law_holds_935 rfl hz91 (gLe hk (Nat.le_of_ble_eq_true rfl))
noncomputable def f_Law_holds_b893 (M : gMem) (x1 : Int32) (x4 : Int32) (s0 : Int32) : Option (Int32 × gMem) :=
  if (gRem x1 3) = 0 then
    f_Law_holds_b904 M x1 x4 1 s0
  else
    f_Law_holds_b904 M x1 x4 0 s0
theorem t_Law_holds_b893 {l : Launch} {ε : gEnv} (hl0 : l.stackTraces = false) (hX : gXw ε) {R : Room} {K ka : Nat} (hR : gRm R 0 0 K 155 6121) (hk : ka + 1 ≤ K) (M : gMem) (x1 : Int32) (x4 : Int32) (s0 : Int32) (r : Int32 × gMem) (h : f_Law_holds_b893 M x1 x4 s0 = some r) : gGo l ε k_Law_holds R (gFk ε K (some (.int r.1)) r.2 ka) 893 [(0, .ref (ε.2.2.1 18 0)), (1, .int x1), (4, .int x4)] [.int s0] M := by
  unfold f_Law_holds_b893 at h
  refine g_iload_n d_Law_holds_893 rfl 1 rfl ?_
  refine g_iconst (v := 3) d_Law_holds_894 (by decide) ?_
  refine g_rem d_Law_holds_895 (by decide) ?_
  refine g_if_ne (tgt := 903) d_Law_holds_896 (by decide) (fun c96 => ?_) (fun c96 => ?_)
  · rw [if_neg c96] at h
    refine g_iconst (v := 0) d_Law_holds_903 (by decide) ?_
    exact t_Law_holds_b904 hl0 hX hR (gLe hk (Nat.le_of_ble_eq_true rfl)) M x1 x4 0 s0 _ h
  · rw [if_pos c96] at h
    refine g_iconst (v := 1) d_Law_holds_899 (by decide) ?_
    refine g_goto (tgt := 904) d_Law_holds_900 (by decide) ?_
    exact t_Law_holds_b904 hl0 hX hR (gLe hk (Nat.le_of_ble_eq_true rfl)) M x1 x4 1 s0 _ h
noncomputable def f_Law_holds_b873 (M : gMem) (x1 : Int32) (x4 : Int32) (s0 : Int32) (s1 : Int32) : Option (Int32 × gMem) :=
  if s1 = s0 then
    (f_Law_call M 2 2 0 0).bind fun q85 =>
    if q85.1 = (-1) then
      f_Law_holds_b893 q85.2 x1 x4 1
    else
      f_Law_holds_b893 q85.2 x1 x4 0
  else
    (gBl 0).bind fun _ =>
    some (0, M)
theorem t_Law_holds_b873 {l : Launch} {ε : gEnv} (hl0 : l.stackTraces = false) (hX : gXw ε) {R : Room} {K ka : Nat} (hR : gRm R 0 0 K 155 6121) (hk : ka + 2 ≤ K) (M : gMem) (x1 : Int32) (x4 : Int32) (s0 : Int32) (s1 : Int32) (r : Int32 × gMem) (h : f_Law_holds_b873 M x1 x4 s0 s1 = some r) : gGo l ε k_Law_holds R (gFk ε K (some (.int r.1)) r.2 ka) 873 [(0, .ref (ε.2.2.1 18 0)), (1, .int x1), (4, .int x4)] [.int s0, .int s1] M := by
  unfold f_Law_holds_b873 at h
  refine g_icmp_ne (tgt := 934) d_Law_holds_873 (by decide) (fun c98 => ?_) (fun c98 => ?_)
  · rw [if_neg c98] at h
    refine g_iconst (v := 0) d_Law_holds_934 (by decide) ?_
    obtain ⟨z84, hz84, h⟩ := gOb h
    obtain rfl := Option.some.inj h
    exact g_zretK hR d_Law_holds_935 rfl hz84 (gLe0 hk)
  · rw [if_pos c98] at h
    refine g_aload_n d_Law_holds_876 rfl 0 rfl ?_
    refine g_iconst (v := 2) d_Law_holds_877 (by decide) ?_
    refine g_iconst (v := 2) d_Law_holds_878 (by decide) ?_
    refine g_iconst (v := 0) d_Law_holds_879 (by decide) ?_
    refine g_iconst (v := 0) d_Law_holds_880 (by decide) ?_
    obtain ⟨q85, hq85, h⟩ := gOb h
    refine g_callK (kb := (ka + 1)) (As := [.ref (ε.2.2.1 18 0), .int 2, .int 2, .int 0, .int 0]) (rest := []) gTk_ok hR (fun _ => ctk_Law_call hl0 hX M 2 2 0 0 _ hq85) d_Law_holds_881 ca_Law_call w_281 rfl rfl (Nat.le_of_ble_eq_true rfl) ⟨(Nat.le_of_ble_eq_true rfl), (Nat.le_of_ble_eq_true rfl)⟩ (Nat.le_refl _) (gLe hk (Nat.le_of_ble_eq_true rfl)) ?_
    refine g_iconst (v := -1) d_Law_holds_884 (by decide) ?_
    refine g_icmp_ne (tgt := 892) d_Law_holds_885 (by decide) (fun c97 => ?_) (fun c97 => ?_)
    · rw [if_neg c97] at h
      refine g_iconst (v := 0) d_Law_holds_892 (by decide) ?_
      exact t_Law_holds_b893 hl0 hX hR (gLe2 hk (Nat.le_of_ble_eq_true rfl)) q85.2 x1 x4 0 _ h
    · rw [if_pos c97] at h
      refine g_iconst (v := 1) d_Law_holds_888 (by decide) ?_
      refine g_goto (tgt := 893) d_Law_holds_889 (by decide) ?_
      exact t_Law_holds_b893 hl0 hX hR (gLe2 hk (Nat.le_of_ble_eq_true rfl)) q85.2 x1 x4 1 _ h
noncomputable def f_Law_holds_b868 (M : gMem) (x1 : Int32) (x4 : Int32) (s0 : Int32) : Option (Int32 × gMem) :=
  f_Law_holds_b873 M x1 x4 1 s0
theorem t_Law_holds_b868 {l : Launch} {ε : gEnv} (hl0 : l.stackTraces = false) (hX : gXw ε) {R : Room} {K ka : Nat} (hR : gRm R 0 0 K 155 6121) (hk : ka + 2 ≤ K) (M : gMem) (x1 : Int32) (x4 : Int32) (s0 : Int32) (r : Int32 × gMem) (h : f_Law_holds_b868 M x1 x4 s0 = some r) : gGo l ε k_Law_holds R (gFk ε K (some (.int r.1)) r.2 ka) 868 [(0, .ref (ε.2.2.1 18 0)), (1, .int x1), (4, .int x4)] [.int s0] M := by
  unfold f_Law_holds_b868 at h
  refine g_iconst (v := 1) d_Law_holds_868 (by decide) ?_
  refine g_goto (tgt := 873) d_Law_holds_869 (by decide) ?_
  exact t_Law_holds_b873 hl0 hX hR (gLe hk (Nat.le_of_ble_eq_true rfl)) M x1 x4 1 s0 _ h
noncomputable def f_Law_holds_b852 (M : gMem) (x1 : Int32) (x4 : Int32) (s0 : Int32) : Option (Int32 × gMem) :=
  if x1 < 2 then
    f_Law_holds_b868 M x1 x4 s0
  else
    (f_Law_call M 2 3 0 0).bind fun q99 =>
    if q99.1 = 0 then
      f_Law_holds_b868 q99.2 x1 x4 s0
    else
      f_Law_holds_b873 q99.2 x1 x4 0 s0
theorem t_Law_holds_b852 {l : Launch} {ε : gEnv} (hl0 : l.stackTraces = false) (hX : gXw ε) {R : Room} {K ka : Nat} (hR : gRm R 0 0 K 155 6121) (hk : ka + 3 ≤ K) (M : gMem) (x1 : Int32) (x4 : Int32) (s0 : Int32) (r : Int32 × gMem) (h : f_Law_holds_b852 M x1 x4 s0 = some r) : gGo l ε k_Law_holds R (gFk ε K (some (.int r.1)) r.2 ka) 852 [(0, .ref (ε.2.2.1 18 0)), (1, .int x1), (4, .int x4)] [.int s0] M := by
  unfold f_Law_holds_b852 at h
  refine g_iload_n d_Law_holds_852 rfl 1 rfl ?_
  refine g_iconst (v := 2) d_Law_holds_853 (by decide) ?_
  refine g_icmp_lt (tgt := 868) d_Law_holds_854 (by decide) (fun c101 => ?_) (fun c101 => ?_)
  · rw [if_pos c101] at h
    exact t_Law_holds_b868 hl0 hX hR (gLe hk (Nat.le_of_ble_eq_true rfl)) M x1 x4 s0 _ h
  · rw [if_neg c101] at h
    refine g_aload_n d_Law_holds_857 rfl 0 rfl ?_
    refine g_iconst (v := 2) d_Law_holds_858 (by decide) ?_
    refine g_iconst (v := 3) d_Law_holds_859 (by decide) ?_
    refine g_iconst (v := 0) d_Law_holds_860 (by decide) ?_
    refine g_iconst (v := 0) d_Law_holds_861 (by decide) ?_
    obtain ⟨q99, hq99, h⟩ := gOb h
    refine g_callK (kb := (ka + 1)) (As := [.ref (ε.2.2.1 18 0), .int 2, .int 3, .int 0, .int 0]) (rest := [.int s0]) gTk_ok hR (fun _ => ctk_Law_call hl0 hX M 2 3 0 0 _ hq99) d_Law_holds_862 ca_Law_call w_281 rfl rfl (Nat.le_of_ble_eq_true rfl) ⟨(Nat.le_of_ble_eq_true rfl), (Nat.le_of_ble_eq_true rfl)⟩ (Nat.le_refl _) (gLe hk (Nat.le_of_ble_eq_true rfl)) ?_
    refine g_if_ne (tgt := 872) d_Law_holds_865 (by decide) (fun c100 => ?_) (fun c100 => ?_)
    · rw [if_neg c100] at h
      refine g_iconst (v := 0) d_Law_holds_872 (by decide) ?_
      exact t_Law_holds_b873 hl0 hX hR (gLe2 hk (Nat.le_of_ble_eq_true rfl)) q99.2 x1 x4 0 s0 _ h
    · rw [if_pos c100] at h
      exact t_Law_holds_b868 hl0 hX hR (gLe2 hk (Nat.le_of_ble_eq_true rfl)) q99.2 x1 x4 s0 _ h
noncomputable def f_Law_holds_b808 (M : gMem) (x1 : Int32) (x2 : Int32) (x4 : Int32) (x7 : Int32) (x8 : Int32) (x12 : Int32) : Option (Int32 × gMem) :=
  if x12 < x8 then
    (gBl 0).bind fun _ =>
    some (0, M)
  else
    (f_Law_call M 2 10 0 0).bind fun q80 =>
    if x12 < q80.1 then
      (gBl 0).bind fun _ =>
      some (0, q80.2)
    else
      if x2 < x7 then
        (gBl 0).bind fun _ =>
        some (0, q80.2)
      else
        (f_Law_call q80.2 2 4 0 0).bind fun q83 =>
        if q83.1 = (-1) then
          f_Law_holds_b852 q83.2 x1 x4 1
        else
          f_Law_holds_b852 q83.2 x1 x4 0
theorem t_Law_holds_b808 {l : Launch} {ε : gEnv} (hl0 : l.stackTraces = false) (hX : gXw ε) {R : Room} {K ka : Nat} (hR : gRm R 0 0 K 155 6121) (hk : ka + 5 ≤ K) (M : gMem) (x1 : Int32) (x2 : Int32) (x4 : Int32) (x7 : Int32) (x8 : Int32) (x12 : Int32) (r : Int32 × gMem) (h : f_Law_holds_b808 M x1 x2 x4 x7 x8 x12 = some r) : gGo l ε k_Law_holds R (gFk ε K (some (.int r.1)) r.2 ka) 808 [(0, .ref (ε.2.2.1 18 0)), (1, .int x1), (2, .int x2), (4, .int x4), (7, .int x7), (8, .int x8), (12, .int x12)] [] M := by
  unfold f_Law_holds_b808 at h
  refine g_iload d_Law_holds_808 5 rfl ?_
  refine g_iload d_Law_holds_810 6 rfl ?_
  refine g_icmp_gt (tgt := 934) d_Law_holds_812 (by decide) (fun c105 => ?_) (fun c105 => ?_)
  · rw [if_pos c105] at h
    refine g_iconst (v := 0) d_Law_holds_934 (by decide) ?_
    obtain ⟨z79, hz79, h⟩ := gOb h
    obtain rfl := Option.some.inj h
    exact g_zretK hR d_Law_holds_935 rfl hz79 (gLe0 hk)
  · rw [if_neg c105] at h
    refine g_aload_n d_Law_holds_815 rfl 0 rfl ?_
    refine g_iconst (v := 2) d_Law_holds_816 (by decide) ?_
    refine g_bipush (v := 10) d_Law_holds_817 (by decide) ?_
    refine g_iconst (v := 0) d_Law_holds_819 (by decide) ?_
    refine g_iconst (v := 0) d_Law_holds_820 (by decide) ?_
    obtain ⟨q80, hq80, h⟩ := gOb h
    refine g_callK (kb := (ka + 1)) (As := [.ref (ε.2.2.1 18 0), .int 2, .int 10, .int 0, .int 0]) (rest := []) gTk_ok hR (fun _ => ctk_Law_call hl0 hX M 2 10 0 0 _ hq80) d_Law_holds_821 ca_Law_call w_281 rfl rfl (Nat.le_of_ble_eq_true rfl) ⟨(Nat.le_of_ble_eq_true rfl), (Nat.le_of_ble_eq_true rfl)⟩ (Nat.le_refl _) (gLe hk (Nat.le_of_ble_eq_true rfl)) ?_
    refine g_iload d_Law_holds_824 6 rfl ?_
    refine g_icmp_gt (tgt := 934) d_Law_holds_826 (by decide) (fun c104 => ?_) (fun c104 => ?_)
    · rw [if_pos c104] at h
      refine g_iconst (v := 0) d_Law_holds_934 (by decide) ?_
      obtain ⟨z81, hz81, h⟩ := gOb h
      obtain rfl := Option.some.inj h
      exact g_zretK hR d_Law_holds_935 rfl hz81 (gLe hk (Nat.le_of_ble_eq_true rfl))
    · rw [if_neg c104] at h
      refine g_iload d_Law_holds_829 4 rfl ?_
      refine g_iload_n d_Law_holds_831 rfl 2 rfl ?_
      refine g_icmp_gt (tgt := 934) d_Law_holds_832 (by decide) (fun c103 => ?_) (fun c103 => ?_)
      · rw [if_pos c103] at h
        refine g_iconst (v := 0) d_Law_holds_934 (by decide) ?_
        obtain ⟨z82, hz82, h⟩ := gOb h
        obtain rfl := Option.some.inj h
        exact g_zretK hR d_Law_holds_935 rfl hz82 (gLe hk (Nat.le_of_ble_eq_true rfl))
      · rw [if_neg c103] at h
        refine g_aload_n d_Law_holds_835 rfl 0 rfl ?_
        refine g_iconst (v := 2) d_Law_holds_836 (by decide) ?_
        refine g_iconst (v := 4) d_Law_holds_837 (by decide) ?_
        refine g_iconst (v := 0) d_Law_holds_838 (by decide) ?_
        refine g_iconst (v := 0) d_Law_holds_839 (by decide) ?_
        obtain ⟨q83, hq83, h⟩ := gOb h
        refine g_callK (kb := (ka + 2)) (As := [.ref (ε.2.2.1 18 0), .int 2, .int 4, .int 0, .int 0]) (rest := []) gTk_ok hR (fun _ => ctk_Law_call hl0 hX q80.2 2 4 0 0 _ hq83) d_Law_holds_840 ca_Law_call w_281 rfl rfl (Nat.le_of_ble_eq_true rfl) ⟨(Nat.le_of_ble_eq_true rfl), (Nat.le_of_ble_eq_true rfl)⟩ (Nat.le_refl _) (gLe hk (Nat.le_of_ble_eq_true rfl)) ?_
        refine g_iconst (v := -1) d_Law_holds_843 (by decide) ?_
        refine g_icmp_ne (tgt := 851) d_Law_holds_844 (by decide) (fun c102 => ?_) (fun c102 => ?_)
        · rw [if_neg c102] at h
          refine g_iconst (v := 0) d_Law_holds_851 (by decide) ?_
          refine gGo_sub [0, 1, 3] rfl ?_
          exact t_Law_holds_b852 hl0 hX hR (gLe2 hk (Nat.le_of_ble_eq_true rfl)) q83.2 x1 x4 0 _ h
        · rw [if_pos c102] at h
          refine g_iconst (v := 1) d_Law_holds_847 (by decide) ?_
          refine g_goto (tgt := 852) d_Law_holds_848 (by decide) ?_
          refine gGo_sub [0, 1, 3] rfl ?_
          exact t_Law_holds_b852 hl0 hX hR (gLe2 hk (Nat.le_of_ble_eq_true rfl)) q83.2 x1 x4 1 _ h
noncomputable def f_Law_holds_b791 (M : gMem) (x1 : Int32) (x2 : Int32) (x4 : Int32) (x7 : Int32) (x8 : Int32) (x11 : Int32) (x12 : Int32) (s0 : Int32) : Option (Int32 × gMem) :=
  if s0 = x11 then
    if x1 = 2 then
      if 8 ≤ x4 then
        (gBl 0).bind fun _ =>
        some (0, M)
      else
        f_Law_holds_b808 M x1 x2 x4 x7 x8 x12
    else
      f_Law_holds_b808 M x1 x2 x4 x7 x8 x12
  else
    (gBl 0).bind fun _ =>
    some (0, M)
theorem t_Law_holds_b791 {l : Launch} {ε : gEnv} (hl0 : l.stackTraces = false) (hX : gXw ε) {R : Room} {K ka : Nat} (hR : gRm R 0 0 K 155 6121) (hk : ka + 5 ≤ K) (M : gMem) (x1 : Int32) (x2 : Int32) (x4 : Int32) (x7 : Int32) (x8 : Int32) (x11 : Int32) (x12 : Int32) (s0 : Int32) (r : Int32 × gMem) (h : f_Law_holds_b791 M x1 x2 x4 x7 x8 x11 x12 s0 = some r) : gGo l ε k_Law_holds R (gFk ε K (some (.int r.1)) r.2 ka) 791 [(0, .ref (ε.2.2.1 18 0)), (1, .int x1), (2, .int x2), (4, .int x4), (7, .int x7), (8, .int x8), (11, .int x11), (12, .int x12)] [.int s0] M := by
  unfold f_Law_holds_b791 at h
  refine g_iload d_Law_holds_791 6 rfl ?_
  refine g_icmp_ne (tgt := 934) d_Law_holds_793 (by decide) (fun c109 => ?_) (fun c109 => ?_)
  · rw [if_neg c109] at h
    refine g_iconst (v := 0) d_Law_holds_934 (by decide) ?_
    obtain ⟨z78, hz78, h⟩ := gOb h
    obtain rfl := Option.some.inj h
    exact g_zretK hR d_Law_holds_935 rfl hz78 (gLe0 hk)
  · rw [if_pos c109] at h
    refine g_iload_n d_Law_holds_796 rfl 1 rfl ?_
    refine g_iconst (v := 2) d_Law_holds_797 (by decide) ?_
    refine g_icmp_ne (tgt := 808) d_Law_holds_798 (by decide) (fun c108 => ?_) (fun c108 => ?_)
    · rw [if_neg c108] at h
      refine gGo_sub [0, 1, 2, 3, 4, 5, 7] rfl ?_
      exact t_Law_holds_b808 hl0 hX hR (gLe hk (Nat.le_of_ble_eq_true rfl)) M x1 x2 x4 x7 x8 x12 _ h
    · rw [if_pos c108] at h
      refine g_iload d_Law_holds_801 3 rfl ?_
      refine g_bipush (v := 8) d_Law_holds_803 (by decide) ?_
      refine g_icmp_ge (tgt := 934) d_Law_holds_805 (by decide) (fun c107 => ?_) (fun c107 => ?_)
      · rw [if_pos c107] at h
        refine g_iconst (v := 0) d_Law_holds_934 (by decide) ?_
        obtain ⟨z106, hz106, h⟩ := gOb h
        obtain rfl := Option.some.inj h
        exact g_zretK hR d_Law_holds_935 rfl hz106 (gLe0 hk)
      · rw [if_neg c107] at h
        refine gGo_sub [0, 1, 2, 3, 4, 5, 7] rfl ?_
        exact t_Law_holds_b808 hl0 hX hR (gLe hk (Nat.le_of_ble_eq_true rfl)) M x1 x2 x4 x7 x8 x12 _ h
noncomputable def f_Law_holds_b778 (M : gMem) (x1 : Int32) (x2 : Int32) (x4 : Int32) (x7 : Int32) (x8 : Int32) (x11 : Int32) (x12 : Int32) (s0 : Int32) (s1 : Int32) : Option (Int32 × gMem) :=
  if s1 = s0 then
    if x1 = 2 then
      f_Law_holds_b791 M x1 x2 x4 x7 x8 x11 x12 1
    else
      f_Law_holds_b791 M x1 x2 x4 x7 x8 x11 x12 0
  else
    (gBl 0).bind fun _ =>
    some (0, M)
theorem t_Law_holds_b778 {l : Launch} {ε : gEnv} (hl0 : l.stackTraces = false) (hX : gXw ε) {R : Room} {K ka : Nat} (hR : gRm R 0 0 K 155 6121) (hk : ka + 5 ≤ K) (M : gMem) (x1 : Int32) (x2 : Int32) (x4 : Int32) (x7 : Int32) (x8 : Int32) (x11 : Int32) (x12 : Int32) (s0 : Int32) (s1 : Int32) (r : Int32 × gMem) (h : f_Law_holds_b778 M x1 x2 x4 x7 x8 x11 x12 s0 s1 = some r) : gGo l ε k_Law_holds R (gFk ε K (some (.int r.1)) r.2 ka) 778 [(0, .ref (ε.2.2.1 18 0)), (1, .int x1), (2, .int x2), (4, .int x4), (7, .int x7), (8, .int x8), (11, .int x11), (12, .int x12)] [.int s0, .int s1] M := by
  unfold f_Law_holds_b778 at h
  refine g_icmp_ne (tgt := 934) d_Law_holds_778 (by decide) (fun c111 => ?_) (fun c111 => ?_)
  · rw [if_neg c111] at h
    refine g_iconst (v := 0) d_Law_holds_934 (by decide) ?_
    obtain ⟨z77, hz77, h⟩ := gOb h
    obtain rfl := Option.some.inj h
    exact g_zretK hR d_Law_holds_935 rfl hz77 (gLe0 hk)
  · rw [if_pos c111] at h
    refine g_iload_n d_Law_holds_781 rfl 1 rfl ?_
    refine g_iconst (v := 2) d_Law_holds_782 (by decide) ?_
    refine g_icmp_ne (tgt := 790) d_Law_holds_783 (by decide) (fun c110 => ?_) (fun c110 => ?_)
    · rw [if_neg c110] at h
      refine g_iconst (v := 0) d_Law_holds_790 (by decide) ?_
      exact t_Law_holds_b791 hl0 hX hR (gLe hk (Nat.le_of_ble_eq_true rfl)) M x1 x2 x4 x7 x8 x11 x12 0 _ h
    · rw [if_pos c110] at h
      refine g_iconst (v := 1) d_Law_holds_786 (by decide) ?_
      refine g_goto (tgt := 791) d_Law_holds_787 (by decide) ?_
      exact t_Law_holds_b791 hl0 hX hR (gLe hk (Nat.le_of_ble_eq_true rfl)) M x1 x2 x4 x7 x8 x11 x12 1 _ h
noncomputable def f_Law_holds_b768 (M : gMem) (x1 : Int32) (x2 : Int32) (x4 : Int32) (x7 : Int32) (x8 : Int32) (x9 : Int32) (x11 : Int32) (x12 : Int32) (s0 : Int32) : Option (Int32 × gMem) :=
  if x9 ≤ 0 then
    f_Law_holds_b778 M x1 x2 x4 x7 x8 x11 x12 0 s0
  else
    f_Law_holds_b778 M x1 x2 x4 x7 x8 x11 x12 1 s0
theorem t_Law_holds_b768 {l : Launch} {ε : gEnv} (hl0 : l.stackTraces = false) (hX : gXw ε) {R : Room} {K ka : Nat} (hR : gRm R 0 0 K 155 6121) (hk : ka + 5 ≤ K) (M : gMem) (x1 : Int32) (x2 : Int32) (x4 : Int32) (x7 : Int32) (x8 : Int32) (x9 : Int32) (x11 : Int32) (x12 : Int32) (s0 : Int32) (r : Int32 × gMem) (h : f_Law_holds_b768 M x1 x2 x4 x7 x8 x9 x11 x12 s0 = some r) : gGo l ε k_Law_holds R (gFk ε K (some (.int r.1)) r.2 ka) 768 [(0, .ref (ε.2.2.1 18 0)), (1, .int x1), (2, .int x2), (4, .int x4), (7, .int x7), (8, .int x8), (9, .int x9), (11, .int x11), (12, .int x12)] [.int s0] M := by
  unfold f_Law_holds_b768 at h
  refine g_iload d_Law_holds_768 6 rfl ?_
  refine g_if_le (tgt := 777) d_Law_holds_770 (by decide) (fun c112 => ?_) (fun c112 => ?_)
  · rw [if_pos c112] at h
    refine g_iconst (v := 0) d_Law_holds_777 (by decide) ?_
    refine gGo_sub [0, 1, 2, 3, 4, 5, 7, 8] rfl ?_
    exact t_Law_holds_b778 hl0 hX hR (gLe hk (Nat.le_of_ble_eq_true rfl)) M x1 x2 x4 x7 x8 x11 x12 0 s0 _ h
  · rw [if_neg c112] at h
    refine g_iconst (v := 1) d_Law_holds_773 (by decide) ?_
    refine g_goto (tgt := 778) d_Law_holds_774 (by decide) ?_
    refine gGo_sub [0, 1, 2, 3, 4, 5, 7, 8] rfl ?_
    exact t_Law_holds_b778 hl0 hX hR (gLe hk (Nat.le_of_ble_eq_true rfl)) M x1 x2 x4 x7 x8 x11 x12 1 s0 _ h
noncomputable def f_Law_holds_b738 (M : gMem) (x1 : Int32) (x2 : Int32) (x4 : Int32) (x5 : Int32) (x7 : Int32) (x8 : Int32) (x9 : Int32) (x11 : Int32) (x12 : Int32) (s0 : Int32) (s1 : Int32) : Option (Int32 × gMem) :=
  if s1 = s0 then
    if x2 = ((4 * x4) + x5) then
      if 4 ≤ x5 then
        (gBl 0).bind fun _ =>
        some (0, M)
      else
        if x1 = 2 then
          f_Law_holds_b768 M x1 x2 x4 x7 x8 x9 x11 x12 1
        else
          f_Law_holds_b768 M x1 x2 x4 x7 x8 x9 x11 x12 0
    else
      (gBl 0).bind fun _ =>
      some (0, M)
  else
    (gBl 0).bind fun _ =>
    some (0, M)
theorem t_Law_holds_b738 {l : Launch} {ε : gEnv} (hl0 : l.stackTraces = false) (hX : gXw ε) {R : Room} {K ka : Nat} (hR : gRm R 0 0 K 155 6121) (hk : ka + 5 ≤ K) (M : gMem) (x1 : Int32) (x2 : Int32) (x4 : Int32) (x5 : Int32) (x7 : Int32) (x8 : Int32) (x9 : Int32) (x11 : Int32) (x12 : Int32) (s0 : Int32) (s1 : Int32) (r : Int32 × gMem) (h : f_Law_holds_b738 M x1 x2 x4 x5 x7 x8 x9 x11 x12 s0 s1 = some r) : gGo l ε k_Law_holds R (gFk ε K (some (.int r.1)) r.2 ka) 738 [(0, .ref (ε.2.2.1 18 0)), (1, .int x1), (2, .int x2), (4, .int x4), (5, .int x5), (7, .int x7), (8, .int x8), (9, .int x9), (11, .int x11), (12, .int x12)] [.int s0, .int s1] M := by
  unfold f_Law_holds_b738 at h
  refine g_icmp_ne (tgt := 934) d_Law_holds_738 (by decide) (fun c116 => ?_) (fun c116 => ?_)
  · rw [if_neg c116] at h
    refine g_iconst (v := 0) d_Law_holds_934 (by decide) ?_
    obtain ⟨z74, hz74, h⟩ := gOb h
    obtain rfl := Option.some.inj h
    exact g_zretK hR d_Law_holds_935 rfl hz74 (gLe0 hk)
  · rw [if_pos c116] at h
    refine g_iload_n d_Law_holds_741 rfl 2 rfl ?_
    refine g_iconst (v := 4) d_Law_holds_742 (by decide) ?_
    refine g_iload d_Law_holds_743 3 rfl ?_
    refine g_imul d_Law_holds_745 ?_
    refine g_iload d_Law_holds_746 4 rfl ?_
    refine g_iadd d_Law_holds_748 ?_
    refine g_icmp_ne (tgt := 934) d_Law_holds_749 (by decide) (fun c115 => ?_) (fun c115 => ?_)
    · rw [if_neg c115] at h
      refine g_iconst (v := 0) d_Law_holds_934 (by decide) ?_
      obtain ⟨z75, hz75, h⟩ := gOb h
      obtain rfl := Option.some.inj h
      exact g_zretK hR d_Law_holds_935 rfl hz75 (gLe0 hk)
    · rw [if_pos c115] at h
      refine g_iload d_Law_holds_752 4 rfl ?_
      refine g_iconst (v := 4) d_Law_holds_754 (by decide) ?_
      refine g_icmp_ge (tgt := 934) d_Law_holds_755 (by decide) (fun c114 => ?_) (fun c114 => ?_)
      · rw [if_pos c114] at h
        refine g_iconst (v := 0) d_Law_holds_934 (by decide) ?_
        obtain ⟨z76, hz76, h⟩ := gOb h
        obtain rfl := Option.some.inj h
        exact g_zretK hR d_Law_holds_935 rfl hz76 (gLe0 hk)
      · rw [if_neg c114] at h
        refine g_iload_n d_Law_holds_758 rfl 1 rfl ?_
        refine g_iconst (v := 2) d_Law_holds_759 (by decide) ?_
        refine g_icmp_ne (tgt := 767) d_Law_holds_760 (by decide) (fun c113 => ?_) (fun c113 => ?_)
        · rw [if_neg c113] at h
          refine g_iconst (v := 0) d_Law_holds_767 (by decide) ?_
          refine gGo_sub [0, 1, 2, 3, 5, 6, 7, 8, 9] rfl ?_
          exact t_Law_holds_b768 hl0 hX hR (gLe hk (Nat.le_of_ble_eq_true rfl)) M x1 x2 x4 x7 x8 x9 x11 x12 0 _ h
        · rw [if_pos c113] at h
          refine g_iconst (v := 1) d_Law_holds_763 (by decide) ?_
          refine g_goto (tgt := 768) d_Law_holds_764 (by decide) ?_
          refine gGo_sub [0, 1, 2, 3, 5, 6, 7, 8, 9] rfl ?_
          exact t_Law_holds_b768 hl0 hX hR (gLe hk (Nat.le_of_ble_eq_true rfl)) M x1 x2 x4 x7 x8 x9 x11 x12 1 _ h
noncomputable def f_Law_holds_b50 (M : gMem) (x1 : Int32) (x2 : Int32) (x3 : Int32) (x4 : Int32) (x5 : Int32) (s0 : Int32) : Option (Int32 × gMem) :=
  (f_Law_holds_l55 x1 x4 x5 33 (x2, x3, s0, 0, M)).bind fun q19 =>
  (f_Law_holds_l207 x1 q19.1 q19.2.1 x4 x5 5 (q19.2.2.1, 0, 0, 0, q19.2.2.2.2)).bind fun q46 =>
  (f_Law_holds_l479 x1 q19.1 q19.2.1 x4 q46.2.1 q46.2.2.1 5 (x5, q46.1, 0, q46.2.2.2.2)).bind fun q55 =>
  (f_Law_holds_l580 x1 q19.1 q19.2.1 x4 q55.1 q46.2.1 q46.2.2.1 9 (q55.2.1, 0, (-1), 0, 0, q55.2.2.2)).bind fun q71 =>
  (f_Law_call q71.2.2.2.2.2 2 9 0 0).bind fun q72 =>
  if q71.1 = 0 then
    (gBl 0).bind fun _ =>
    some (0, q72.2)
  else
    if x1 = 0 then
      f_Law_holds_b738 q72.2 x1 q19.1 x4 q55.1 q46.2.1 q46.2.2.1 q71.2.1 q71.2.2.2.1 q72.1 32 q19.2.1
    else
      f_Law_holds_b738 q72.2 x1 q19.1 x4 q55.1 q46.2.1 q46.2.2.1 q71.2.1 q71.2.2.2.1 q72.1 q19.1 q19.2.1
theorem t_Law_holds_b50 {l : Launch} {ε : gEnv} (hl0 : l.stackTraces = false) (hX : gXw ε) {R : Room} {K ka : Nat} (hR : gRm R 0 0 K 155 6121) (hk : ka + 292 ≤ K) (M : gMem) (x1 : Int32) (x2 : Int32) (x3 : Int32) (x4 : Int32) (x5 : Int32) (s0 : Int32) (r : Int32 × gMem) (h : f_Law_holds_b50 M x1 x2 x3 x4 x5 s0 = some r) : gGo l ε k_Law_holds R (gFk ε K (some (.int r.1)) r.2 ka) 50 [(0, .ref (ε.2.2.1 18 0)), (1, .int x1), (2, .int x2), (3, .int x3), (4, .int x4), (5, .int x5)] [.int s0] M := by
  unfold f_Law_holds_b50 at h
  refine g_istore (L' := [(6, .int s0), (0, .ref (ε.2.2.1 18 0)), (1, .int x1), (2, .int x2), (3, .int x3), (4, .int x4), (5, .int x5)]) d_Law_holds_50 (by decide) rfl ?_
  refine g_iconst (v := 0) d_Law_holds_52 (by decide) ?_
  refine g_istore (L' := [(7, .int 0), (6, .int s0), (0, .ref (ε.2.2.1 18 0)), (1, .int x1), (2, .int x2), (3, .int x3), (4, .int x4), (5, .int x5)]) d_Law_holds_53 (by decide) rfl ?_
  obtain ⟨q19, hq19, h⟩ := gOb h
  refine gGo_sub [2, 3, 4, 5, 6, 7, 1, 0] rfl ?_
  refine t_Law_holds_l55 hl0 hX gTk_ok hR x1 x4 x5 33 (x2, x3, s0, 0, M) q19 ka hq19 (by omega) ?_
  refine g_useK hR (kb := (ka + 99)) (by omega) (gLe hk (Nat.le_of_ble_eq_true rfl)) ?_
  refine g_iconst (v := 0) d_Law_holds_198 (by decide) ?_
  refine g_istore (L' := [(7, .int 0), (0, .ref (ε.2.2.1 18 0)), (1, .int x1), (2, .int q19.1), (3, .int q19.2.1), (4, .int x4), (5, .int x5), (6, .int q19.2.2.1)]) d_Law_holds_199 (by decide) rfl ?_
  refine g_iconst (v := 0) d_Law_holds_201 (by decide) ?_
  refine g_istore (L' := [(8, .int 0), (7, .int 0), (0, .ref (ε.2.2.1 18 0)), (1, .int x1), (2, .int q19.1), (3, .int q19.2.1), (4, .int x4), (5, .int x5), (6, .int q19.2.2.1)]) d_Law_holds_202 (by decide) rfl ?_
  refine g_iconst (v := 0) d_Law_holds_204 (by decide) ?_
  refine g_istore (L' := [(9, .int 0), (8, .int 0), (7, .int 0), (0, .ref (ε.2.2.1 18 0)), (1, .int x1), (2, .int q19.1), (3, .int q19.2.1), (4, .int x4), (5, .int x5), (6, .int q19.2.2.1)]) d_Law_holds_205 (by decide) rfl ?_
  obtain ⟨q46, hq46, h⟩ := gOb h
  refine gGo_sub [3, 4, 5, 6, 7, 8, 9, 2, 1, 0] rfl ?_
  refine t_Law_holds_l207 hl0 hX gTk_ok hR x1 q19.1 q19.2.1 x4 x5 5 (q19.2.2.1, 0, 0, 0, q19.2.2.2.2) q46 (ka + 99) hq46 (by omega) ?_
  refine g_useK hR (kb := (ka + 249)) (by omega) (gLe hk (Nat.le_of_ble_eq_true rfl)) ?_
  refine g_iconst (v := 0) d_Law_holds_476 (by decide) ?_
  refine g_istore (L' := [(9, .int 0), (0, .ref (ε.2.2.1 18 0)), (1, .int x1), (2, .int q19.1), (3, .int q19.2.1), (4, .int x4), (5, .int x5), (6, .int q46.1), (7, .int q46.2.1), (8, .int q46.2.2.1)]) d_Law_holds_477 (by decide) rfl ?_
  obtain ⟨q55, hq55, h⟩ := gOb h
  refine gGo_sub [1, 2, 3, 4, 5, 6, 7, 8, 9, 0] rfl ?_
  refine t_Law_holds_l479 hl0 hX gTk_ok hR x1 q19.1 q19.2.1 x4 q46.2.1 q46.2.2.1 5 (x5, q46.1, 0, q46.2.2.2.2) q55 (ka + 249) hq55 (by omega) ?_
  refine g_useK hR (kb := (ka + 259)) (by omega) (gLe hk (Nat.le_of_ble_eq_true rfl)) ?_
  refine g_iconst (v := 0) d_Law_holds_568 (by decide) ?_
  refine g_istore (L' := [(9, .int 0), (0, .ref (ε.2.2.1 18 0)), (1, .int x1), (2, .int q19.1), (3, .int q19.2.1), (4, .int x4), (5, .int q55.1), (6, .int q55.2.1), (7, .int q46.2.1), (8, .int q46.2.2.1)]) d_Law_holds_569 (by decide) rfl ?_
  refine g_iconst (v := -1) d_Law_holds_571 (by decide) ?_
  refine g_istore (L' := [(10, .int (-1)), (9, .int 0), (0, .ref (ε.2.2.1 18 0)), (1, .int x1), (2, .int q19.1), (3, .int q19.2.1), (4, .int x4), (5, .int q55.1), (6, .int q55.2.1), (7, .int q46.2.1), (8, .int q46.2.2.1)]) d_Law_holds_572 (by decide) rfl ?_
  refine g_iconst (v := 0) d_Law_holds_574 (by decide) ?_
  refine g_istore (L' := [(11, .int 0), (10, .int (-1)), (9, .int 0), (0, .ref (ε.2.2.1 18 0)), (1, .int x1), (2, .int q19.1), (3, .int q19.2.1), (4, .int x4), (5, .int q55.1), (6, .int q55.2.1), (7, .int q46.2.1), (8, .int q46.2.2.1)]) d_Law_holds_575 (by decide) rfl ?_
  refine g_iconst (v := 0) d_Law_holds_577 (by decide) ?_
  refine g_istore (L' := [(12, .int 0), (11, .int 0), (10, .int (-1)), (9, .int 0), (0, .ref (ε.2.2.1 18 0)), (1, .int x1), (2, .int q19.1), (3, .int q19.2.1), (4, .int x4), (5, .int q55.1), (6, .int q55.2.1), (7, .int q46.2.1), (8, .int q46.2.2.1)]) d_Law_holds_578 (by decide) rfl ?_
  obtain ⟨q71, hq71, h⟩ := gOb h
  refine gGo_sub [4, 5, 6, 7, 8, 9, 10, 11, 12, 3, 2, 1, 0] rfl ?_
  refine t_Law_holds_l580 hl0 hX gTk_ok hR x1 q19.1 q19.2.1 x4 q55.1 q46.2.1 q46.2.2.1 9 (q55.2.1, 0, (-1), 0, 0, q55.2.2.2) q71 (ka + 259) hq71 (by omega) ?_
  refine g_useK hR (kb := (ka + 286)) (by omega) (gLe hk (Nat.le_of_ble_eq_true rfl)) ?_
  refine g_aload_n d_Law_holds_711 rfl 0 rfl ?_
  refine g_iconst (v := 2) d_Law_holds_712 (by decide) ?_
  refine g_bipush (v := 9) d_Law_holds_713 (by decide) ?_
  refine g_iconst (v := 0) d_Law_holds_715 (by decide) ?_
  refine g_iconst (v := 0) d_Law_holds_716 (by decide) ?_
  obtain ⟨q72, hq72, h⟩ := gOb h
  refine g_callK (kb := (ka + 287)) (As := [.ref (ε.2.2.1 18 0), .int 2, .int 9, .int 0, .int 0]) (rest := []) gTk_ok hR (fun _ => ctk_Law_call hl0 hX q71.2.2.2.2.2 2 9 0 0 _ hq72) d_Law_holds_717 ca_Law_call w_281 rfl rfl (Nat.le_of_ble_eq_true rfl) ⟨(Nat.le_of_ble_eq_true rfl), (Nat.le_of_ble_eq_true rfl)⟩ (Nat.le_refl _) (gLe hk (Nat.le_of_ble_eq_true rfl)) ?_
  refine g_istore (L' := [(12, .int q72.1), (0, .ref (ε.2.2.1 18 0)), (1, .int x1), (2, .int q19.1), (3, .int q19.2.1), (4, .int x4), (5, .int q55.1), (6, .int q71.1), (7, .int q46.2.1), (8, .int q46.2.2.1), (9, .int q71.2.1), (10, .int q71.2.2.1), (11, .int q71.2.2.2.1)]) d_Law_holds_720 (by decide) rfl ?_
  refine g_iload d_Law_holds_722 7 rfl ?_
  refine g_if_eq (tgt := 934) d_Law_holds_724 (by decide) (fun c118 => ?_) (fun c118 => ?_)
  · rw [if_pos c118] at h
    refine g_iconst (v := 0) d_Law_holds_934 (by decide) ?_
    obtain ⟨z73, hz73, h⟩ := gOb h
    obtain rfl := Option.some.inj h
    exact g_zretK hR d_Law_holds_935 rfl hz73 (gLe hk (Nat.le_of_ble_eq_true rfl))
  · rw [if_neg c118] at h
    refine g_iload_n d_Law_holds_727 rfl 4 rfl ?_
    refine g_iload_n d_Law_holds_728 rfl 2 rfl ?_
    refine g_if_ne (tgt := 737) d_Law_holds_729 (by decide) (fun c117 => ?_) (fun c117 => ?_)
    · rw [if_neg c117] at h
      refine g_iload_n d_Law_holds_737 rfl 3 rfl ?_
      refine gGo_sub [1, 2, 3, 5, 6, 8, 9, 10, 12, 0] rfl ?_
      exact t_Law_holds_b738 hl0 hX hR (gLe2 hk (Nat.le_of_ble_eq_true rfl)) q72.2 x1 q19.1 x4 q55.1 q46.2.1 q46.2.2.1 q71.2.1 q71.2.2.2.1 q72.1 q19.1 q19.2.1 _ h
    · rw [if_pos c117] at h
      refine g_bipush (v := 32) d_Law_holds_732 (by decide) ?_
      refine g_goto (tgt := 738) d_Law_holds_734 (by decide) ?_
      refine gGo_sub [1, 2, 3, 5, 6, 8, 9, 10, 12, 0] rfl ?_
      exact t_Law_holds_b738 hl0 hX hR (gLe2 hk (Nat.le_of_ble_eq_true rfl)) q72.2 x1 q19.1 x4 q55.1 q46.2.1 q46.2.2.1 q71.2.1 q71.2.2.2.1 q72.1 32 q19.2.1 _ h
noncomputable def f_Law_holds_b49 (M : gMem) (x1 : Int32) (x2 : Int32) (x3 : Int32) (x4 : Int32) (x5 : Int32) : Option (Int32 × gMem) :=
  f_Law_holds_b50 M x1 x2 x3 x4 x5 0
theorem t_Law_holds_b49 {l : Launch} {ε : gEnv} (hl0 : l.stackTraces = false) (hX : gXw ε) {R : Room} {K ka : Nat} (hR : gRm R 0 0 K 155 6121) (hk : ka + 292 ≤ K) (M : gMem) (x1 : Int32) (x2 : Int32) (x3 : Int32) (x4 : Int32) (x5 : Int32) (r : Int32 × gMem) (h : f_Law_holds_b49 M x1 x2 x3 x4 x5 = some r) : gGo l ε k_Law_holds R (gFk ε K (some (.int r.1)) r.2 ka) 49 [(0, .ref (ε.2.2.1 18 0)), (1, .int x1), (2, .int x2), (3, .int x3), (4, .int x4), (5, .int x5)] [] M := by
  unfold f_Law_holds_b49 at h
  refine g_iconst (v := 0) d_Law_holds_49 (by decide) ?_
  exact t_Law_holds_b50 hl0 hX hR (gLe hk (Nat.le_of_ble_eq_true rfl)) M x1 x2 x3 x4 x5 0 _ h
noncomputable def f_Law_holds (M : gMem) : Option (Int32 × gMem) :=
  (f_Law_call M 2 1 0 0).bind fun q1 =>
  (f_Law_call q1.2 2 5 0 0).bind fun q2 =>
  (f_Law_call q2.2 2 6 0 0).bind fun q3 =>
  if q1.1 < 0 then
    f_Law_holds_b49 q3.2 q1.1 0 0 (q2.1 + q3.1) 0
  else
    if 4 ≤ q1.1 then
      f_Law_holds_b49 q3.2 q1.1 0 0 (q2.1 + q3.1) 0
    else
      f_Law_holds_b50 q3.2 q1.1 0 0 (q2.1 + q3.1) 0 1
theorem t_Law_holds {l : Launch} {ε : gEnv} (hl0 : l.stackTraces = false) (hX : gXw ε) {R : Room} {K ka : Nat} (hR : gRm R 0 0 K 155 6121) (hk : ka + 295 ≤ K) (M : gMem) (r : Int32 × gMem) (h : f_Law_holds M = some r) : gGo l ε k_Law_holds R (gFk ε K (some (.int r.1)) r.2 ka) 0 [(0, .ref (ε.2.2.1 18 0))] [] M := by
  unfold f_Law_holds at h
  refine g_aload_n d_Law_holds_0 rfl 0 rfl ?_
  refine g_iconst (v := 2) d_Law_holds_1 (by decide) ?_
  refine g_iconst (v := 1) d_Law_holds_2 (by decide) ?_
  refine g_iconst (v := 0) d_Law_holds_3 (by decide) ?_
  refine g_iconst (v := 0) d_Law_holds_4 (by decide) ?_
  obtain ⟨q1, hq1, h⟩ := gOb h
  refine g_callK (kb := (ka + 1)) (As := [.ref (ε.2.2.1 18 0), .int 2, .int 1, .int 0, .int 0]) (rest := []) gTk_ok hR (fun _ => ctk_Law_call hl0 hX M 2 1 0 0 _ hq1) d_Law_holds_5 ca_Law_call w_281 rfl rfl (Nat.le_of_ble_eq_true rfl) ⟨(Nat.le_of_ble_eq_true rfl), (Nat.le_of_ble_eq_true rfl)⟩ (Nat.le_refl _) (gLe hk (Nat.le_of_ble_eq_true rfl)) ?_
  refine g_istore_n (L' := [(1, .int q1.1), (0, .ref (ε.2.2.1 18 0))]) d_Law_holds_8 rfl (by decide) rfl ?_
  refine g_iconst (v := 0) d_Law_holds_9 (by decide) ?_
  refine g_istore_n (L' := [(2, .int 0), (1, .int q1.1), (0, .ref (ε.2.2.1 18 0))]) d_Law_holds_10 rfl (by decide) rfl ?_
  refine g_iconst (v := 0) d_Law_holds_11 (by decide) ?_
  refine g_istore_n (L' := [(3, .int 0), (2, .int 0), (1, .int q1.1), (0, .ref (ε.2.2.1 18 0))]) d_Law_holds_12 rfl (by decide) rfl ?_
  refine g_aload_n d_Law_holds_13 rfl 3 rfl ?_
  refine g_iconst (v := 2) d_Law_holds_14 (by decide) ?_
  refine g_iconst (v := 5) d_Law_holds_15 (by decide) ?_
  refine g_iconst (v := 0) d_Law_holds_16 (by decide) ?_
  refine g_iconst (v := 0) d_Law_holds_17 (by decide) ?_
  obtain ⟨q2, hq2, h⟩ := gOb h
  refine g_callK (kb := (ka + 2)) (As := [.ref (ε.2.2.1 18 0), .int 2, .int 5, .int 0, .int 0]) (rest := []) gTk_ok hR (fun _ => ctk_Law_call hl0 hX q1.2 2 5 0 0 _ hq2) d_Law_holds_18 ca_Law_call w_281 rfl rfl (Nat.le_of_ble_eq_true rfl) ⟨(Nat.le_of_ble_eq_true rfl), (Nat.le_of_ble_eq_true rfl)⟩ (Nat.le_refl _) (gLe hk (Nat.le_of_ble_eq_true rfl)) ?_
  refine g_aload_n d_Law_holds_21 rfl 3 rfl ?_
  refine g_iconst (v := 2) d_Law_holds_22 (by decide) ?_
  refine g_bipush (v := 6) d_Law_holds_23 (by decide) ?_
  refine g_iconst (v := 0) d_Law_holds_25 (by decide) ?_
  refine g_iconst (v := 0) d_Law_holds_26 (by decide) ?_
  obtain ⟨q3, hq3, h⟩ := gOb h
  refine g_callK (kb := (ka + 3)) (As := [.ref (ε.2.2.1 18 0), .int 2, .int 6, .int 0, .int 0]) (rest := [.int q2.1]) gTk_ok hR (fun _ => ctk_Law_call hl0 hX q2.2 2 6 0 0 _ hq3) d_Law_holds_27 ca_Law_call w_281 rfl rfl (Nat.le_of_ble_eq_true rfl) ⟨(Nat.le_of_ble_eq_true rfl), (Nat.le_of_ble_eq_true rfl)⟩ (Nat.le_refl _) (gLe hk (Nat.le_of_ble_eq_true rfl)) ?_
  refine g_iadd d_Law_holds_30 ?_
  refine g_istore (L' := [(4, .int (q2.1 + q3.1)), (3, .int 0), (2, .int 0), (1, .int q1.1), (0, .ref (ε.2.2.1 18 0))]) d_Law_holds_31 (by decide) rfl ?_
  refine g_iconst (v := 0) d_Law_holds_33 (by decide) ?_
  refine g_istore (L' := [(5, .int 0), (4, .int (q2.1 + q3.1)), (3, .int 0), (2, .int 0), (1, .int q1.1), (0, .ref (ε.2.2.1 18 0))]) d_Law_holds_34 (by decide) rfl ?_
  refine g_iload_n d_Law_holds_36 rfl 4 rfl ?_
  refine g_if_lt (tgt := 49) d_Law_holds_37 (by decide) (fun c120 => ?_) (fun c120 => ?_)
  · rw [if_pos c120] at h
    refine gGo_sub [5, 4, 3, 2, 1, 0] rfl ?_
    exact t_Law_holds_b49 hl0 hX hR (gLe2 hk (Nat.le_of_ble_eq_true rfl)) q3.2 q1.1 0 0 (q2.1 + q3.1) 0 _ h
  · rw [if_neg c120] at h
    refine g_iload_n d_Law_holds_40 rfl 4 rfl ?_
    refine g_iconst (v := 4) d_Law_holds_41 (by decide) ?_
    refine g_icmp_ge (tgt := 49) d_Law_holds_42 (by decide) (fun c119 => ?_) (fun c119 => ?_)
    · rw [if_pos c119] at h
      refine gGo_sub [5, 4, 3, 2, 1, 0] rfl ?_
      exact t_Law_holds_b49 hl0 hX hR (gLe2 hk (Nat.le_of_ble_eq_true rfl)) q3.2 q1.1 0 0 (q2.1 + q3.1) 0 _ h
    · rw [if_neg c119] at h
      refine g_iconst (v := 1) d_Law_holds_45 (by decide) ?_
      refine g_goto (tgt := 50) d_Law_holds_46 (by decide) ?_
      refine gGo_sub [5, 4, 3, 2, 1, 0] rfl ?_
      exact t_Law_holds_b50 hl0 hX hR (gLe2 hk (Nat.le_of_ble_eq_true rfl)) q3.2 q1.1 0 0 (q2.1 + q3.1) 0 1 _ h
theorem ctk_Law_holds {l : Launch} {ε : gEnv} (hl0 : l.stackTraces = false) (hX : gXw ε) (M : gMem) (r : Int32 × gMem) (h : f_Law_holds M = some r) : gCtK l ε k_Law_holds 155 6121 295 [.ref (ε.2.2.1 18 0)] M (some (.int r.1)) r.2 :=
  gCtK_of hl0 (by decide) (Nat.le_of_ble_eq_true rfl) rfl (t_Law_holds hl0 hX (gRm_K _ _ _) (Nat.le_of_eq (Nat.zero_add _)) M r h)
theorem ctkq_Law_holds {l : Launch} {ε : gEnv} (hl0 : l.stackTraces = false) (hY : gXw (swE ε)) (M : gMem) (q : Int32 × gMem) (h : onQ (fun M => f_Law_holds M) M = some q) : gCtK l ε k_Law_holds 155 6121 295 [.ref (ε.2.2.1 38 0)] M (some (.int q.1)) q.2 :=
  gCtK_sw (ctk_Law_holds hl0 hY (swM M) (q.1, swM q.2) (onQ_s h))
theorem d_Law_alike_0 : decode method_26_code 0 = .ok (.aload_n 0, 1) := by decide +kernel
theorem d_Law_alike_1 : decode method_26_code 1 = .ok (.iload_n 2, 1) := by decide +kernel
theorem d_Law_alike_2 : decode method_26_code 2 = .ok (.i2l, 1) := by decide +kernel
theorem d_Law_alike_3 : decode method_26_code 3 = .ok (.iconst 1, 1) := by decide +kernel
theorem d_Law_alike_4 : decode method_26_code 4 = .ok (.iload_n 2, 1) := by decide +kernel
theorem d_Law_alike_5 : decode method_26_code 5 = .ok (.bipush 90, 2) := by decide +kernel
theorem d_Law_alike_7 : decode method_26_code 7 = .ok (.irem, 1) := by decide +kernel
theorem d_Law_alike_8 : decode method_26_code 8 = .ok (.iadd, 1) := by decide +kernel
theorem d_Law_alike_9 : decode method_26_code 9 = .ok (.invokestatic 146, 3) := by decide +kernel
theorem d_Law_alike_12 : decode method_26_code 12 = .ok (.aload_n 1, 1) := by decide +kernel
theorem d_Law_alike_13 : decode method_26_code 13 = .ok (.iload_n 2, 1) := by decide +kernel
theorem d_Law_alike_14 : decode method_26_code 14 = .ok (.i2l, 1) := by decide +kernel
theorem d_Law_alike_15 : decode method_26_code 15 = .ok (.iconst 1, 1) := by decide +kernel
theorem d_Law_alike_16 : decode method_26_code 16 = .ok (.iload_n 2, 1) := by decide +kernel
theorem d_Law_alike_17 : decode method_26_code 17 = .ok (.bipush 90, 2) := by decide +kernel
theorem d_Law_alike_19 : decode method_26_code 19 = .ok (.irem, 1) := by decide +kernel
theorem d_Law_alike_20 : decode method_26_code 20 = .ok (.iadd, 1) := by decide +kernel
theorem d_Law_alike_21 : decode method_26_code 21 = .ok (.invokestatic 146, 3) := by decide +kernel
theorem d_Law_alike_24 : decode method_26_code 24 = .ok (.if_icmp .ne 18, 3) := by decide +kernel
theorem d_Law_alike_27 : decode method_26_code 27 = .ok (.aload_n 0, 1) := by decide +kernel
theorem d_Law_alike_28 : decode method_26_code 28 = .ok (.invokevirtual 150, 3) := by decide +kernel
theorem d_Law_alike_31 : decode method_26_code 31 = .ok (.aload_n 1, 1) := by decide +kernel
theorem d_Law_alike_32 : decode method_26_code 32 = .ok (.invokevirtual 150, 3) := by decide +kernel
theorem d_Law_alike_35 : decode method_26_code 35 = .ok (.if_icmp .ne 7, 3) := by decide +kernel
theorem d_Law_alike_38 : decode method_26_code 38 = .ok (.iconst 1, 1) := by decide +kernel
theorem d_Law_alike_39 : decode method_26_code 39 = .ok (.goto 4, 3) := by decide +kernel
theorem d_Law_alike_42 : decode method_26_code 42 = .ok (.iconst 0, 1) := by decide +kernel
theorem d_Law_alike_43 : decode method_26_code 43 = .ok (.istore_n 3, 1) := by decide +kernel
theorem d_Law_alike_44 : decode method_26_code 44 = .ok (.iconst 0, 1) := by decide +kernel
theorem d_Law_alike_45 : decode method_26_code 45 = .ok (.istore 4, 2) := by decide +kernel
theorem d_Law_alike_47 : decode method_26_code 47 = .ok (.iload 4, 2) := by decide +kernel
theorem d_Law_alike_49 : decode method_26_code 49 = .ok (.bipush 32, 2) := by decide +kernel
theorem d_Law_alike_51 : decode method_26_code 51 = .ok (.if_icmp .ge 127, 3) := by decide +kernel
theorem d_Law_alike_54 : decode method_26_code 54 = .ok (.iload_n 3, 1) := by decide +kernel
theorem d_Law_alike_55 : decode method_26_code 55 = .ok (.ifCond .eq 123, 3) := by decide +kernel
theorem d_Law_alike_58 : decode method_26_code 58 = .ok (.aload_n 0, 1) := by decide +kernel
theorem d_Law_alike_59 : decode method_26_code 59 = .ok (.iconst 2, 1) := by decide +kernel
theorem d_Law_alike_60 : decode method_26_code 60 = .ok (.iload 4, 2) := by decide +kernel
theorem d_Law_alike_62 : decode method_26_code 62 = .ok (.iconst 0, 1) := by decide +kernel
theorem d_Law_alike_63 : decode method_26_code 63 = .ok (.iconst 0, 1) := by decide +kernel
theorem d_Law_alike_64 : decode method_26_code 64 = .ok (.invokestatic 132, 3) := by decide +kernel
theorem d_Law_alike_67 : decode method_26_code 67 = .ok (.aload_n 1, 1) := by decide +kernel
theorem d_Law_alike_68 : decode method_26_code 68 = .ok (.iconst 2, 1) := by decide +kernel
theorem d_Law_alike_69 : decode method_26_code 69 = .ok (.iload 4, 2) := by decide +kernel
theorem d_Law_alike_71 : decode method_26_code 71 = .ok (.iconst 0, 1) := by decide +kernel
theorem d_Law_alike_72 : decode method_26_code 72 = .ok (.iconst 0, 1) := by decide +kernel
theorem d_Law_alike_73 : decode method_26_code 73 = .ok (.invokestatic 132, 3) := by decide +kernel
theorem d_Law_alike_76 : decode method_26_code 76 = .ok (.if_icmp .ne 94, 3) := by decide +kernel
theorem d_Law_alike_79 : decode method_26_code 79 = .ok (.aload_n 0, 1) := by decide +kernel
theorem d_Law_alike_80 : decode method_26_code 80 = .ok (.iconst 3, 1) := by decide +kernel
theorem d_Law_alike_81 : decode method_26_code 81 = .ok (.iload 4, 2) := by decide +kernel
theorem d_Law_alike_83 : decode method_26_code 83 = .ok (.iload_n 2, 1) := by decide +kernel
theorem d_Law_alike_84 : decode method_26_code 84 = .ok (.iconst 3, 1) := by decide +kernel
theorem d_Law_alike_85 : decode method_26_code 85 = .ok (.irem, 1) := by decide +kernel
theorem d_Law_alike_86 : decode method_26_code 86 = .ok (.iconst 0, 1) := by decide +kernel
theorem d_Law_alike_87 : decode method_26_code 87 = .ok (.invokestatic 132, 3) := by decide +kernel
theorem d_Law_alike_90 : decode method_26_code 90 = .ok (.aload_n 1, 1) := by decide +kernel
theorem d_Law_alike_91 : decode method_26_code 91 = .ok (.iconst 3, 1) := by decide +kernel
theorem d_Law_alike_92 : decode method_26_code 92 = .ok (.iload 4, 2) := by decide +kernel
theorem d_Law_alike_94 : decode method_26_code 94 = .ok (.iload_n 2, 1) := by decide +kernel
theorem d_Law_alike_95 : decode method_26_code 95 = .ok (.iconst 3, 1) := by decide +kernel
theorem d_Law_alike_96 : decode method_26_code 96 = .ok (.irem, 1) := by decide +kernel
theorem d_Law_alike_97 : decode method_26_code 97 = .ok (.iconst 0, 1) := by decide +kernel
theorem d_Law_alike_98 : decode method_26_code 98 = .ok (.invokestatic 132, 3) := by decide +kernel
theorem d_Law_alike_101 : decode method_26_code 101 = .ok (.if_icmp .ne 69, 3) := by decide +kernel
theorem d_Law_alike_104 : decode method_26_code 104 = .ok (.aload_n 0, 1) := by decide +kernel
theorem d_Law_alike_105 : decode method_26_code 105 = .ok (.iconst 4, 1) := by decide +kernel
theorem d_Law_alike_106 : decode method_26_code 106 = .ok (.iload 4, 2) := by decide +kernel
theorem d_Law_alike_108 : decode method_26_code 108 = .ok (.iconst 4, 1) := by decide +kernel
theorem d_Law_alike_109 : decode method_26_code 109 = .ok (.irem, 1) := by decide +kernel
theorem d_Law_alike_110 : decode method_26_code 110 = .ok (.iload 4, 2) := by decide +kernel
theorem d_Law_alike_112 : decode method_26_code 112 = .ok (.iconst 4, 1) := by decide +kernel
theorem d_Law_alike_113 : decode method_26_code 113 = .ok (.idiv, 1) := by decide +kernel
theorem d_Law_alike_114 : decode method_26_code 114 = .ok (.iconst 4, 1) := by decide +kernel
theorem d_Law_alike_115 : decode method_26_code 115 = .ok (.irem, 1) := by decide +kernel
theorem d_Law_alike_116 : decode method_26_code 116 = .ok (.iload_n 2, 1) := by decide +kernel
theorem d_Law_alike_117 : decode method_26_code 117 = .ok (.bipush 6, 2) := by decide +kernel
theorem d_Law_alike_119 : decode method_26_code 119 = .ok (.irem, 1) := by decide +kernel
theorem d_Law_alike_120 : decode method_26_code 120 = .ok (.invokestatic 132, 3) := by decide +kernel
theorem d_Law_alike_123 : decode method_26_code 123 = .ok (.aload_n 1, 1) := by decide +kernel
theorem d_Law_alike_124 : decode method_26_code 124 = .ok (.iconst 4, 1) := by decide +kernel
theorem d_Law_alike_125 : decode method_26_code 125 = .ok (.iload 4, 2) := by decide +kernel
theorem d_Law_alike_127 : decode method_26_code 127 = .ok (.iconst 4, 1) := by decide +kernel
theorem d_Law_alike_128 : decode method_26_code 128 = .ok (.irem, 1) := by decide +kernel
theorem d_Law_alike_129 : decode method_26_code 129 = .ok (.iload 4, 2) := by decide +kernel
theorem d_Law_alike_131 : decode method_26_code 131 = .ok (.iconst 4, 1) := by decide +kernel
theorem d_Law_alike_132 : decode method_26_code 132 = .ok (.idiv, 1) := by decide +kernel
theorem d_Law_alike_133 : decode method_26_code 133 = .ok (.iconst 4, 1) := by decide +kernel
theorem d_Law_alike_134 : decode method_26_code 134 = .ok (.irem, 1) := by decide +kernel
theorem d_Law_alike_135 : decode method_26_code 135 = .ok (.iload_n 2, 1) := by decide +kernel
theorem d_Law_alike_136 : decode method_26_code 136 = .ok (.bipush 6, 2) := by decide +kernel
theorem d_Law_alike_138 : decode method_26_code 138 = .ok (.irem, 1) := by decide +kernel
theorem d_Law_alike_139 : decode method_26_code 139 = .ok (.invokestatic 132, 3) := by decide +kernel
theorem d_Law_alike_142 : decode method_26_code 142 = .ok (.if_icmp .ne 28, 3) := by decide +kernel
theorem d_Law_alike_145 : decode method_26_code 145 = .ok (.aload_n 0, 1) := by decide +kernel
theorem d_Law_alike_146 : decode method_26_code 146 = .ok (.iconst 5, 1) := by decide +kernel
theorem d_Law_alike_147 : decode method_26_code 147 = .ok (.iload 4, 2) := by decide +kernel
theorem d_Law_alike_149 : decode method_26_code 149 = .ok (.iconst 0, 1) := by decide +kernel
theorem d_Law_alike_150 : decode method_26_code 150 = .ok (.iconst 0, 1) := by decide +kernel
theorem d_Law_alike_151 : decode method_26_code 151 = .ok (.invokestatic 132, 3) := by decide +kernel
theorem d_Law_alike_154 : decode method_26_code 154 = .ok (.aload_n 1, 1) := by decide +kernel
theorem d_Law_alike_155 : decode method_26_code 155 = .ok (.iconst 5, 1) := by decide +kernel
theorem d_Law_alike_156 : decode method_26_code 156 = .ok (.iload 4, 2) := by decide +kernel
theorem d_Law_alike_158 : decode method_26_code 158 = .ok (.iconst 0, 1) := by decide +kernel
theorem d_Law_alike_159 : decode method_26_code 159 = .ok (.iconst 0, 1) := by decide +kernel
theorem d_Law_alike_160 : decode method_26_code 160 = .ok (.invokestatic 132, 3) := by decide +kernel
theorem d_Law_alike_163 : decode method_26_code 163 = .ok (.if_icmp .ne 7, 3) := by decide +kernel
theorem d_Law_alike_166 : decode method_26_code 166 = .ok (.iconst 1, 1) := by decide +kernel
theorem d_Law_alike_167 : decode method_26_code 167 = .ok (.goto 4, 3) := by decide +kernel
theorem d_Law_alike_170 : decode method_26_code 170 = .ok (.iconst 0, 1) := by decide +kernel
theorem d_Law_alike_171 : decode method_26_code 171 = .ok (.istore_n 3, 1) := by decide +kernel
theorem d_Law_alike_172 : decode method_26_code 172 = .ok (.iinc 4 1, 3) := by decide +kernel
theorem d_Law_alike_175 : decode method_26_code 175 = .ok (.goto (-128), 3) := by decide +kernel
theorem d_Law_alike_178 : decode method_26_code 178 = .ok (.iload_n 3, 1) := by decide +kernel
theorem d_Law_alike_179 : decode method_26_code 179 = .ok (.ireturn, 1) := by decide +kernel
abbrev k_Law_alike : gMD := (⟨"DropSignalsLaw", "alike", "(LDropSignals;LDropSignals;I)Z"⟩, method_26_code, 5, (some .boolean))
theorem w_957 : Cond.static ⟨"DropSignalsLaw", "alike", "(LDropSignals;LDropSignals;I)Z"⟩ ∈ gWs := gWs_in (i := 957) (by decide +kernel) rfl
set_option maxRecDepth 100000 in
theorem ca_Law_alike : gCaS k_Law_alike 3 := ⟨⟨gWs_in (i := 958) rfl rfl, w_19, by decide, by decide, by decide +kernel⟩, w_957⟩
noncomputable def f_Law_alike_b171_47 (M : gMem) (x2 : Int32) (x4 : Int32) (s0 : Int32) : Option ((Int32 × Int32 × gMem) ⊕ (Int32 × Int32 × gMem)) :=
  some (.inl (s0, (x4 + 1), M))
theorem t_Law_alike_b171_47 {l : Launch} {ε : gEnv} (hl0 : l.stackTraces = false) (hX : gXw ε) (hY : gXw (swE ε)) {R : Room} {T : gTT} {Z : gZZ} {k0 n0 K ka kb : Nat} (hT : gTok T) (hR : gRm R k0 n0 K 155 6121) (hk : ka + 0 ≤ kb) (hb : kb ≤ K) (M : gMem) (x2 : Int32) (x4 : Int32) (s0 : Int32) (res : ((Int32 × Int32 × gMem) ⊕ (Int32 × Int32 × gMem))) (h : f_Law_alike_b171_47 M x2 x4 s0 = some res) (k1 : ∀ s0 : (Int32 × Int32 × gMem), res = .inl s0 → gGo l ε k_Law_alike R (gFg T Z k0 n0 kb) 47 [(0, .ref (ε.2.2.1 18 0)), (1, .ref (ε.2.2.1 38 0)), (2, .int x2), (3, .int s0.1), (4, .int s0.2.1)] [] s0.2.2) (k2 : ∀ s0 : (Int32 × Int32 × gMem), res = .inr s0 → gGo l ε k_Law_alike R (gFg T Z k0 n0 kb) 178 [(0, .ref (ε.2.2.1 18 0)), (1, .ref (ε.2.2.1 38 0)), (2, .int x2), (3, .int s0.1), (4, .int s0.2.1)] [] s0.2.2) : gGo l ε k_Law_alike R (gFg T Z k0 n0 ka) 171 [(0, .ref (ε.2.2.1 18 0)), (1, .ref (ε.2.2.1 38 0)), (2, .int x2), (4, .int x4)] [.int s0] M := by
  unfold f_Law_alike_b171_47 at h
  refine g_istore_n (L' := [(3, .int s0), (0, .ref (ε.2.2.1 18 0)), (1, .ref (ε.2.2.1 38 0)), (2, .int x2), (4, .int x4)]) d_Law_alike_171 rfl (by decide) rfl ?_
  refine g_iinc (v := (x4 + 1)) (L' := [(4, .int (x4 + 1)), (3, .int s0), (0, .ref (ε.2.2.1 18 0)), (1, .ref (ε.2.2.1 38 0)), (2, .int x2)]) d_Law_alike_172 (j := 4) rfl rfl (by decide) rfl ?_
  refine g_goto (tgt := 47) d_Law_alike_175 (by decide) ?_
  refine gGo_sub [2, 3, 4, 1, 0] rfl ?_
  obtain rfl := Option.some.inj h
  exact g_useK hR (gLe0 hk) hb (k1 (s0, (x4 + 1), M) rfl)
noncomputable def f_Law_alike_b170_47 (M : gMem) (x2 : Int32) (x4 : Int32) : Option ((Int32 × Int32 × gMem) ⊕ (Int32 × Int32 × gMem)) :=
  f_Law_alike_b171_47 M x2 x4 0
theorem t_Law_alike_b170_47 {l : Launch} {ε : gEnv} (hl0 : l.stackTraces = false) (hX : gXw ε) (hY : gXw (swE ε)) {R : Room} {T : gTT} {Z : gZZ} {k0 n0 K ka kb : Nat} (hT : gTok T) (hR : gRm R k0 n0 K 155 6121) (hk : ka + 0 ≤ kb) (hb : kb ≤ K) (M : gMem) (x2 : Int32) (x4 : Int32) (res : ((Int32 × Int32 × gMem) ⊕ (Int32 × Int32 × gMem))) (h : f_Law_alike_b170_47 M x2 x4 = some res) (k1 : ∀ s0 : (Int32 × Int32 × gMem), res = .inl s0 → gGo l ε k_Law_alike R (gFg T Z k0 n0 kb) 47 [(0, .ref (ε.2.2.1 18 0)), (1, .ref (ε.2.2.1 38 0)), (2, .int x2), (3, .int s0.1), (4, .int s0.2.1)] [] s0.2.2) (k2 : ∀ s0 : (Int32 × Int32 × gMem), res = .inr s0 → gGo l ε k_Law_alike R (gFg T Z k0 n0 kb) 178 [(0, .ref (ε.2.2.1 18 0)), (1, .ref (ε.2.2.1 38 0)), (2, .int x2), (3, .int s0.1), (4, .int s0.2.1)] [] s0.2.2) : gGo l ε k_Law_alike R (gFg T Z k0 n0 ka) 170 [(0, .ref (ε.2.2.1 18 0)), (1, .ref (ε.2.2.1 38 0)), (2, .int x2), (4, .int x4)] [] M := by
  unfold f_Law_alike_b170_47 at h
  refine g_iconst (v := 0) d_Law_alike_170 (by decide) ?_
  exact t_Law_alike_b171_47 hl0 hX hY hT hR (gLe hk (Nat.le_of_ble_eq_true rfl)) hb M x2 x4 0 _ h k1 k2
noncomputable def f_Law_alike_s47 (M : gMem) (x2 : Int32) (x3 : Int32) (x4 : Int32) : Option ((Int32 × Int32 × gMem) ⊕ (Int32 × Int32 × gMem)) :=
  if 32 ≤ x4 then
    some (.inr (x3, x4, M))
  else
    if x3 = 0 then
      some (.inr (x3, x4, M))
    else
      (f_Law_call M 2 x4 0 0).bind fun q3 =>
      (onQ (fun M => f_Law_call M 2 x4 0 0) q3.2).bind fun q4 =>
      if q3.1 = q4.1 then
        (f_Law_call q4.2 3 x4 (gRem x2 3) 0).bind fun q5 =>
        (onQ (fun M => f_Law_call M 3 x4 (gRem x2 3) 0) q5.2).bind fun q6 =>
        if q5.1 = q6.1 then
          (f_Law_call q6.2 4 (gRem x4 4) (gRem (x4 / 4) 4) (gRem x2 6)).bind fun q7 =>
          (onQ (fun M => f_Law_call M 4 (gRem x4 4) (gRem (x4 / 4) 4) (gRem x2 6)) q7.2).bind fun q8 =>
          if q7.1 = q8.1 then
            (f_Law_call q8.2 5 x4 0 0).bind fun q9 =>
            (onQ (fun M => f_Law_call M 5 x4 0 0) q9.2).bind fun q10 =>
            if q9.1 = q10.1 then
              f_Law_alike_b171_47 q10.2 x2 x4 1
            else
              f_Law_alike_b170_47 q10.2 x2 x4
          else
            f_Law_alike_b170_47 q8.2 x2 x4
        else
          f_Law_alike_b170_47 q6.2 x2 x4
      else
        f_Law_alike_b170_47 q4.2 x2 x4
theorem t_Law_alike_s47 {l : Launch} {ε : gEnv} (hl0 : l.stackTraces = false) (hX : gXw ε) (hY : gXw (swE ε)) {R : Room} {T : gTT} {Z : gZZ} {k0 n0 K ka kb : Nat} (hT : gTok T) (hR : gRm R k0 n0 K 155 6121) (hk : ka + 8 ≤ kb) (hb : kb ≤ K) (M : gMem) (x2 : Int32) (x3 : Int32) (x4 : Int32) (res : ((Int32 × Int32 × gMem) ⊕ (Int32 × Int32 × gMem))) (h : f_Law_alike_s47 M x2 x3 x4 = some res) (k1 : ∀ s0 : (Int32 × Int32 × gMem), res = .inl s0 → gGo l ε k_Law_alike R (gFg T Z k0 n0 kb) 47 [(0, .ref (ε.2.2.1 18 0)), (1, .ref (ε.2.2.1 38 0)), (2, .int x2), (3, .int s0.1), (4, .int s0.2.1)] [] s0.2.2) (k2 : ∀ s0 : (Int32 × Int32 × gMem), res = .inr s0 → gGo l ε k_Law_alike R (gFg T Z k0 n0 kb) 178 [(0, .ref (ε.2.2.1 18 0)), (1, .ref (ε.2.2.1 38 0)), (2, .int x2), (3, .int s0.1), (4, .int s0.2.1)] [] s0.2.2) : gGo l ε k_Law_alike R (gFg T Z k0 n0 ka) 47 [(0, .ref (ε.2.2.1 18 0)), (1, .ref (ε.2.2.1 38 0)), (2, .int x2), (3, .int x3), (4, .int x4)] [] M := by
  unfold f_Law_alike_s47 at h
  refine g_iload d_Law_alike_47 4 rfl ?_
  refine g_bipush (v := 32) d_Law_alike_49 (by decide) ?_
  refine g_icmp_ge (tgt := 178) d_Law_alike_51 (by decide) (fun c16 => ?_) (fun c16 => ?_)
  · rw [if_pos c16] at h
    obtain rfl := Option.some.inj h
    exact g_useK hR (gLe0 hk) hb (k2 (x3, x4, M) rfl)
  · rw [if_neg c16] at h
    refine g_iload_n d_Law_alike_54 rfl 3 rfl ?_
    refine g_if_eq (tgt := 178) d_Law_alike_55 (by decide) (fun c15 => ?_) (fun c15 => ?_)
    · rw [if_pos c15] at h
      obtain rfl := Option.some.inj h
      exact g_useK hR (gLe0 hk) hb (k2 (x3, x4, M) rfl)
    · rw [if_neg c15] at h
      refine g_aload_n d_Law_alike_58 rfl 0 rfl ?_
      refine g_iconst (v := 2) d_Law_alike_59 (by decide) ?_
      refine g_iload d_Law_alike_60 4 rfl ?_
      refine g_iconst (v := 0) d_Law_alike_62 (by decide) ?_
      refine g_iconst (v := 0) d_Law_alike_63 (by decide) ?_
      obtain ⟨q3, hq3, h⟩ := gOb h
      refine g_callK (kb := (ka + 1)) (As := [.ref (ε.2.2.1 18 0), .int 2, .int x4, .int 0, .int 0]) (rest := []) hT hR (fun _ => ctk_Law_call hl0 hX M 2 x4 0 0 _ hq3) d_Law_alike_64 ca_Law_call w_281 rfl rfl (Nat.le_of_ble_eq_true rfl) ⟨(Nat.le_of_ble_eq_true rfl), (Nat.le_of_ble_eq_true rfl)⟩ (Nat.le_refl _) (Nat.le_trans (gLe hk (Nat.le_of_ble_eq_true rfl)) hb) ?_
      refine g_aload_n d_Law_alike_67 rfl 1 rfl ?_
      refine g_iconst (v := 2) d_Law_alike_68 (by decide) ?_
      refine g_iload d_Law_alike_69 4 rfl ?_
      refine g_iconst (v := 0) d_Law_alike_71 (by decide) ?_
      refine g_iconst (v := 0) d_Law_alike_72 (by decide) ?_
      obtain ⟨q4, hq4, h⟩ := gOb h
      refine g_callK (kb := (ka + 2)) (As := [.ref (ε.2.2.1 38 0), .int 2, .int x4, .int 0, .int 0]) (rest := [.int q3.1]) hT hR (fun _ => ctkq_Law_call hl0 hY q3.2 2 x4 0 0 _ hq4) d_Law_alike_73 ca_Law_call w_281 rfl rfl (Nat.le_of_ble_eq_true rfl) ⟨(Nat.le_of_ble_eq_true rfl), (Nat.le_of_ble_eq_true rfl)⟩ (Nat.le_refl _) (Nat.le_trans (gLe hk (Nat.le_of_ble_eq_true rfl)) hb) ?_
      refine g_icmp_ne (tgt := 170) d_Law_alike_76 (by decide) (fun c14 => ?_) (fun c14 => ?_)
      · rw [if_neg c14] at h
        refine gGo_sub [0, 1, 2, 4] rfl ?_
        exact t_Law_alike_b170_47 hl0 hX hY hT hR (gLe2 hk (Nat.le_of_ble_eq_true rfl)) hb q4.2 x2 x4 _ h k1 k2
      · rw [if_pos c14] at h
        refine g_aload_n d_Law_alike_79 rfl 0 rfl ?_
        refine g_iconst (v := 3) d_Law_alike_80 (by decide) ?_
        refine g_iload d_Law_alike_81 4 rfl ?_
        refine g_iload_n d_Law_alike_83 rfl 2 rfl ?_
        refine g_iconst (v := 3) d_Law_alike_84 (by decide) ?_
        refine g_rem d_Law_alike_85 (by decide) ?_
        refine g_iconst (v := 0) d_Law_alike_86 (by decide) ?_
        obtain ⟨q5, hq5, h⟩ := gOb h
        refine g_callK (kb := (ka + 3)) (As := [.ref (ε.2.2.1 18 0), .int 3, .int x4, .int (gRem x2 3), .int 0]) (rest := []) hT hR (fun _ => ctk_Law_call hl0 hX q4.2 3 x4 (gRem x2 3) 0 _ hq5) d_Law_alike_87 ca_Law_call w_281 rfl rfl (Nat.le_of_ble_eq_true rfl) ⟨(Nat.le_of_ble_eq_true rfl), (Nat.le_of_ble_eq_true rfl)⟩ (Nat.le_refl _) (Nat.le_trans (gLe hk (Nat.le_of_ble_eq_true rfl)) hb) ?_
        refine g_aload_n d_Law_alike_90 rfl 1 rfl ?_
        refine g_iconst (v := 3) d_Law_alike_91 (by decide) ?_
        refine g_iload d_Law_alike_92 4 rfl ?_
        refine g_iload_n d_Law_alike_94 rfl 2 rfl ?_
        refine g_iconst (v := 3) d_Law_alike_95 (by decide) ?_
        refine g_rem d_Law_alike_96 (by decide) ?_
        refine g_iconst (v := 0) d_Law_alike_97 (by decide) ?_
        obtain ⟨q6, hq6, h⟩ := gOb h
        refine g_callK (kb := (ka + 4)) (As := [.ref (ε.2.2.1 38 0), .int 3, .int x4, .int (gRem x2 3), .int 0]) (rest := [.int q5.1]) hT hR (fun _ => ctkq_Law_call hl0 hY q5.2 3 x4 (gRem x2 3) 0 _ hq6) d_Law_alike_98 ca_Law_call w_281 rfl rfl (Nat.le_of_ble_eq_true rfl) ⟨(Nat.le_of_ble_eq_true rfl), (Nat.le_of_ble_eq_true rfl)⟩ (Nat.le_refl _) (Nat.le_trans (gLe hk (Nat.le_of_ble_eq_true rfl)) hb) ?_
        refine g_icmp_ne (tgt := 170) d_Law_alike_101 (by decide) (fun c13 => ?_) (fun c13 => ?_)
        · rw [if_neg c13] at h
          refine gGo_sub [0, 1, 2, 4] rfl ?_
          exact t_Law_alike_b170_47 hl0 hX hY hT hR (gLe2 hk (Nat.le_of_ble_eq_true rfl)) hb q6.2 x2 x4 _ h k1 k2
        · rw [if_pos c13] at h
          refine g_aload_n d_Law_alike_104 rfl 0 rfl ?_
          refine g_iconst (v := 4) d_Law_alike_105 (by decide) ?_
          refine g_iload d_Law_alike_106 4 rfl ?_
          refine g_iconst (v := 4) d_Law_alike_108 (by decide) ?_
          refine g_rem d_Law_alike_109 (by decide) ?_
          refine g_iload d_Law_alike_110 4 rfl ?_
          refine g_iconst (v := 4) d_Law_alike_112 (by decide) ?_
          refine g_idiv d_Law_alike_113 (by decide) ?_
          refine g_iconst (v := 4) d_Law_alike_114 (by decide) ?_
          refine g_rem d_Law_alike_115 (by decide) ?_
          refine g_iload_n d_Law_alike_116 rfl 2 rfl ?_
          refine g_bipush (v := 6) d_Law_alike_117 (by decide) ?_
          refine g_rem d_Law_alike_119 (by decide) ?_
          obtain ⟨q7, hq7, h⟩ := gOb h
          refine g_callK (kb := (ka + 5)) (As := [.ref (ε.2.2.1 18 0), .int 4, .int (gRem x4 4), .int (gRem (x4 / 4) 4), .int (gRem x2 6)]) (rest := []) hT hR (fun _ => ctk_Law_call hl0 hX q6.2 4 (gRem x4 4) (gRem (x4 / 4) 4) (gRem x2 6) _ hq7) d_Law_alike_120 ca_Law_call w_281 rfl rfl (Nat.le_of_ble_eq_true rfl) ⟨(Nat.le_of_ble_eq_true rfl), (Nat.le_of_ble_eq_true rfl)⟩ (Nat.le_refl _) (Nat.le_trans (gLe hk (Nat.le_of_ble_eq_true rfl)) hb) ?_
          refine g_aload_n d_Law_alike_123 rfl 1 rfl ?_
          refine g_iconst (v := 4) d_Law_alike_124 (by decide) ?_
          refine g_iload d_Law_alike_125 4 rfl ?_
          refine g_iconst (v := 4) d_Law_alike_127 (by decide) ?_
          refine g_rem d_Law_alike_128 (by decide) ?_
          refine g_iload d_Law_alike_129 4 rfl ?_
          refine g_iconst (v := 4) d_Law_alike_131 (by decide) ?_
          refine g_idiv d_Law_alike_132 (by decide) ?_
          refine g_iconst (v := 4) d_Law_alike_133 (by decide) ?_
          refine g_rem d_Law_alike_134 (by decide) ?_
          refine g_iload_n d_Law_alike_135 rfl 2 rfl ?_
          refine g_bipush (v := 6) d_Law_alike_136 (by decide) ?_
          refine g_rem d_Law_alike_138 (by decide) ?_
          obtain ⟨q8, hq8, h⟩ := gOb h
          refine g_callK (kb := (ka + 6)) (As := [.ref (ε.2.2.1 38 0), .int 4, .int (gRem x4 4), .int (gRem (x4 / 4) 4), .int (gRem x2 6)]) (rest := [.int q7.1]) hT hR (fun _ => ctkq_Law_call hl0 hY q7.2 4 (gRem x4 4) (gRem (x4 / 4) 4) (gRem x2 6) _ hq8) d_Law_alike_139 ca_Law_call w_281 rfl rfl (Nat.le_of_ble_eq_true rfl) ⟨(Nat.le_of_ble_eq_true rfl), (Nat.le_of_ble_eq_true rfl)⟩ (Nat.le_refl _) (Nat.le_trans (gLe hk (Nat.le_of_ble_eq_true rfl)) hb) ?_
          refine g_icmp_ne (tgt := 170) d_Law_alike_142 (by decide) (fun c12 => ?_) (fun c12 => ?_)
          · rw [if_neg c12] at h
            refine gGo_sub [0, 1, 2, 4] rfl ?_
            exact t_Law_alike_b170_47 hl0 hX hY hT hR (gLe2 hk (Nat.le_of_ble_eq_true rfl)) hb q8.2 x2 x4 _ h k1 k2
          · rw [if_pos c12] at h
            refine g_aload_n d_Law_alike_145 rfl 0 rfl ?_
            refine g_iconst (v := 5) d_Law_alike_146 (by decide) ?_
            refine g_iload d_Law_alike_147 4 rfl ?_
            refine g_iconst (v := 0) d_Law_alike_149 (by decide) ?_
            refine g_iconst (v := 0) d_Law_alike_150 (by decide) ?_
            obtain ⟨q9, hq9, h⟩ := gOb h
            refine g_callK (kb := (ka + 7)) (As := [.ref (ε.2.2.1 18 0), .int 5, .int x4, .int 0, .int 0]) (rest := []) hT hR (fun _ => ctk_Law_call hl0 hX q8.2 5 x4 0 0 _ hq9) d_Law_alike_151 ca_Law_call w_281 rfl rfl (Nat.le_of_ble_eq_true rfl) ⟨(Nat.le_of_ble_eq_true rfl), (Nat.le_of_ble_eq_true rfl)⟩ (Nat.le_refl _) (Nat.le_trans (gLe hk (Nat.le_of_ble_eq_true rfl)) hb) ?_
            refine g_aload_n d_Law_alike_154 rfl 1 rfl ?_
            refine g_iconst (v := 5) d_Law_alike_155 (by decide) ?_
            refine g_iload d_Law_alike_156 4 rfl ?_
            refine g_iconst (v := 0) d_Law_alike_158 (by decide) ?_
            refine g_iconst (v := 0) d_Law_alike_159 (by decide) ?_
            obtain ⟨q10, hq10, h⟩ := gOb h
            refine g_callK (kb := (ka + 8)) (As := [.ref (ε.2.2.1 38 0), .int 5, .int x4, .int 0, .int 0]) (rest := [.int q9.1]) hT hR (fun _ => ctkq_Law_call hl0 hY q9.2 5 x4 0 0 _ hq10) d_Law_alike_160 ca_Law_call w_281 rfl rfl (Nat.le_of_ble_eq_true rfl) ⟨(Nat.le_of_ble_eq_true rfl), (Nat.le_of_ble_eq_true rfl)⟩ (Nat.le_refl _) (Nat.le_trans (gLe hk (Nat.le_of_ble_eq_true rfl)) hb) ?_
            refine g_icmp_ne (tgt := 170) d_Law_alike_163 (by decide) (fun c11 => ?_) (fun c11 => ?_)
            · rw [if_neg c11] at h
              refine gGo_sub [0, 1, 2, 4] rfl ?_
              exact t_Law_alike_b170_47 hl0 hX hY hT hR (gLe2 hk (Nat.le_of_ble_eq_true rfl)) hb q10.2 x2 x4 _ h k1 k2
            · rw [if_pos c11] at h
              refine g_iconst (v := 1) d_Law_alike_166 (by decide) ?_
              refine g_goto (tgt := 171) d_Law_alike_167 (by decide) ?_
              refine gGo_sub [0, 1, 2, 4] rfl ?_
              exact t_Law_alike_b171_47 hl0 hX hY hT hR (gLe2 hk (Nat.le_of_ble_eq_true rfl)) hb q10.2 x2 x4 1 _ h k1 k2
noncomputable def f_Law_alike_l47 (x2 : Int32) (j : Nat) (s : (Int32 × Int32 × gMem)) : Option (Int32 × Int32 × gMem) := gIt (fun s => f_Law_alike_s47 s.2.2 x2 s.1 s.2.1) j s
theorem t_Law_alike_l47 {l : Launch} {ε : gEnv} (hl0 : l.stackTraces = false) (hX : gXw ε) (hY : gXw (swE ε)) {R : Room} {T : gTT} {Z : gZZ} {k0 n0 K : Nat} (hT : gTok T) (hR : gRm R k0 n0 K 155 6121) (x2 : Int32) : ∀ (j : Nat) (s s' : (Int32 × Int32 × gMem)) (ka : Nat), f_Law_alike_l47 x2 j s = some s' → ka + 8 * j ≤ K → gGo l ε k_Law_alike R (gFg T Z k0 n0 (ka + 8 * j)) 178 [(0, .ref (ε.2.2.1 18 0)), (1, .ref (ε.2.2.1 38 0)), (2, .int x2), (3, .int s'.1), (4, .int s'.2.1)] [] s'.2.2 → gGo l ε k_Law_alike R (gFg T Z k0 n0 ka) 47 [(0, .ref (ε.2.2.1 18 0)), (1, .ref (ε.2.2.1 38 0)), (2, .int x2), (3, .int s.1), (4, .int s.2.1)] [] s.2.2 := by
  intro j
  induction j with
  | zero => intro s s' ka h; cases h
  | succ j ih =>
    intro s s' ka h hk kk
    rcases gIt_s h with ⟨s1, h1, h2⟩ | h1
    · refine t_Law_alike_s47 (kb := ka + 8) hl0 hX hY hT hR (Nat.le_refl _) (by omega) s.2.2 x2 s.1 s.2.1 (.inl s1) h1 (fun s0 e => ?_) (fun s0 e => nomatch e)
      cases e
      refine ih s1 s' (ka + 8) h2 (by omega) ?_
      rw [show ka + 8 + 8 * j = ka + 8 * (j + 1) by omega]
      exact kk
    · refine t_Law_alike_s47 (kb := ka + 8) hl0 hX hY hT hR (Nat.le_refl _) (by omega) s.2.2 x2 s.1 s.2.1 (.inr s') h1 (fun s0 e => nomatch e) (fun s0 e => ?_)
      cases e
      exact g_useK hR (by omega) hk kk
noncomputable def f_Law_alike_b43 (M : gMem) (x2 : Int32) (s0 : Int32) : Option (Int32 × gMem) :=
  (f_Law_alike_l47 x2 33 (s0, 0, M)).bind fun q17 =>
  (gBl q17.1).bind fun _ =>
  some (q17.1, q17.2.2)
theorem t_Law_alike_b43 {l : Launch} {ε : gEnv} (hl0 : l.stackTraces = false) (hX : gXw ε) (hY : gXw (swE ε)) {R : Room} {K ka : Nat} (hR : gRm R 0 0 K 155 6121) (hk : ka + 264 ≤ K) (M : gMem) (x2 : Int32) (s0 : Int32) (r : Int32 × gMem) (h : f_Law_alike_b43 M x2 s0 = some r) : gGo l ε k_Law_alike R (gFk ε K (some (.int r.1)) r.2 ka) 43 [(0, .ref (ε.2.2.1 18 0)), (1, .ref (ε.2.2.1 38 0)), (2, .int x2)] [.int s0] M := by
  unfold f_Law_alike_b43 at h
  refine g_istore_n (L' := [(3, .int s0), (0, .ref (ε.2.2.1 18 0)), (1, .ref (ε.2.2.1 38 0)), (2, .int x2)]) d_Law_alike_43 rfl (by decide) rfl ?_
  refine g_iconst (v := 0) d_Law_alike_44 (by decide) ?_
  refine g_istore (L' := [(4, .int 0), (3, .int s0), (0, .ref (ε.2.2.1 18 0)), (1, .ref (ε.2.2.1 38 0)), (2, .int x2)]) d_Law_alike_45 (by decide) rfl ?_
  obtain ⟨q17, hq17, h⟩ := gOb h
  refine gGo_sub [2, 3, 4, 1, 0] rfl ?_
  refine t_Law_alike_l47 hl0 hX hY gTk_ok hR x2 33 (s0, 0, M) q17 ka hq17 (by omega) ?_
  refine g_useK hR (kb := (ka + 264)) (by omega) (gLe hk (Nat.le_of_ble_eq_true rfl)) ?_
  refine g_iload_n d_Law_alike_178 rfl 3 rfl ?_
  obtain ⟨z18, hz18, h⟩ := gOb h
  obtain rfl := Option.some.inj h
  exact g_zretK hR d_Law_alike_179 rfl hz18 (gLe hk (Nat.le_of_ble_eq_true rfl))
noncomputable def f_Law_alike_b42 (M : gMem) (x2 : Int32) : Option (Int32 × gMem) :=
  f_Law_alike_b43 M x2 0
theorem t_Law_alike_b42 {l : Launch} {ε : gEnv} (hl0 : l.stackTraces = false) (hX : gXw ε) (hY : gXw (swE ε)) {R : Room} {K ka : Nat} (hR : gRm R 0 0 K 155 6121) (hk : ka + 264 ≤ K) (M : gMem) (x2 : Int32) (r : Int32 × gMem) (h : f_Law_alike_b42 M x2 = some r) : gGo l ε k_Law_alike R (gFk ε K (some (.int r.1)) r.2 ka) 42 [(0, .ref (ε.2.2.1 18 0)), (1, .ref (ε.2.2.1 38 0)), (2, .int x2)] [] M := by
  unfold f_Law_alike_b42 at h
  refine g_iconst (v := 0) d_Law_alike_42 (by decide) ?_
  exact t_Law_alike_b43 hl0 hX hY hR (gLe hk (Nat.le_of_ble_eq_true rfl)) M x2 0 _ h
noncomputable def f_Law_alike (M : gMem) (a2 : Int32) : Option (Int32 × gMem) :=
  (f_Law_doSimulate M (Int32.toInt64 a2) (1 + (gRem a2 90))).bind fun q1 =>
  (onQ (fun M => f_Law_doSimulate M (Int32.toInt64 a2) (1 + (gRem a2 90))) q1.2).bind fun q2 =>
  if q1.1 = q2.1 then
    (f_DS_advice q2.2).bind fun q19 =>
    (f_DS_advice (swM q2.2)).bind fun q20 =>
    if q19 = q20 then
      f_Law_alike_b43 q2.2 a2 1
    else
      f_Law_alike_b42 q2.2 a2
  else
    f_Law_alike_b42 q2.2 a2
theorem t_Law_alike {l : Launch} {ε : gEnv} (hl0 : l.stackTraces = false) (hX : gXw ε) (hY : gXw (swE ε)) {R : Room} {K ka : Nat} (hR : gRm R 0 0 K 155 6121) (hk : ka + 266 ≤ K) (M : gMem) (a2 : Int32) (r : Int32 × gMem) (h : f_Law_alike M a2 = some r) : gGo l ε k_Law_alike R (gFk ε K (some (.int r.1)) r.2 ka) 0 [(0, .ref (ε.2.2.1 18 0)), (1, .ref (ε.2.2.1 38 0)), (2, .int a2)] [] M := by
  unfold f_Law_alike at h
  refine g_aload_n d_Law_alike_0 rfl 0 rfl ?_
  refine g_iload_n d_Law_alike_1 rfl 2 rfl ?_
  refine g_i2l d_Law_alike_2 ?_
  refine g_iconst (v := 1) d_Law_alike_3 (by decide) ?_
  refine g_iload_n d_Law_alike_4 rfl 2 rfl ?_
  refine g_bipush (v := 90) d_Law_alike_5 (by decide) ?_
  refine g_rem d_Law_alike_7 (by decide) ?_
  refine g_iadd d_Law_alike_8 ?_
  obtain ⟨q1, hq1, h⟩ := gOb h
  refine g_callT (j := 3) (kb := (ka + 1)) (As := [.ref (ε.2.2.1 18 0), .long (Int32.toInt64 a2), .int (1 + (gRem a2 90))]) (rest := []) gTk_ok hR (fun _ => ctl_Law_doSimulate hl0 hX M (Int32.toInt64 a2) (1 + (gRem a2 90)) _ hq1) d_Law_alike_9 cw_Law_doSimulate w_19 w_922 w_921 (by decide +kernel) rfl rfl (Nat.le_of_ble_eq_true rfl) ⟨(Nat.le_of_ble_eq_true rfl), (Nat.le_of_ble_eq_true rfl)⟩ (Nat.le_refl _) (gLe hk (Nat.le_of_ble_eq_true rfl)) ?_
  refine g_aload_n d_Law_alike_12 rfl 1 rfl ?_
  refine g_iload_n d_Law_alike_13 rfl 2 rfl ?_
  refine g_i2l d_Law_alike_14 ?_
  refine g_iconst (v := 1) d_Law_alike_15 (by decide) ?_
  refine g_iload_n d_Law_alike_16 rfl 2 rfl ?_
  refine g_bipush (v := 90) d_Law_alike_17 (by decide) ?_
  refine g_rem d_Law_alike_19 (by decide) ?_
  refine g_iadd d_Law_alike_20 ?_
  obtain ⟨q2, hq2, h⟩ := gOb h
  refine g_callT (j := 3) (kb := (ka + 2)) (As := [.ref (ε.2.2.1 38 0), .long (Int32.toInt64 a2), .int (1 + (gRem a2 90))]) (rest := [.int q1.1]) gTk_ok hR (fun _ => ctlq_Law_doSimulate hl0 hY q1.2 (Int32.toInt64 a2) (1 + (gRem a2 90)) _ hq2) d_Law_alike_21 cw_Law_doSimulate w_19 w_922 w_921 (by decide +kernel) rfl rfl (Nat.le_of_ble_eq_true rfl) ⟨(Nat.le_of_ble_eq_true rfl), (Nat.le_of_ble_eq_true rfl)⟩ (Nat.le_refl _) (gLe hk (Nat.le_of_ble_eq_true rfl)) ?_
  refine g_icmp_ne (tgt := 42) d_Law_alike_24 (by decide) (fun c22 => ?_) (fun c22 => ?_)
  · rw [if_neg c22] at h
    exact t_Law_alike_b42 hl0 hX hY hR (gLe2 hk (Nat.le_of_ble_eq_true rfl)) q2.2 a2 _ h
  · rw [if_pos c22] at h
    refine g_aload_n d_Law_alike_27 rfl 0 rfl ?_
    obtain ⟨q19, hq19, h⟩ := gOb h
    refine g_callV_i (As := []) (rest := []) (ct_DS_advice hX q2.2 _ hq19) d_Law_alike_28 ca_DS_advice w_939 (gXw_h0 hX) rfl rfl rfl (Nat.le_of_ble_eq_true rfl) ⟨Nat.le_trans (Nat.le_of_ble_eq_true rfl) hR.2.2.1, Nat.le_trans (Nat.le_of_ble_eq_true rfl) hR.2.2.2⟩ ?_
    refine g_aload_n d_Law_alike_31 rfl 1 rfl ?_
    obtain ⟨q20, hq20, h⟩ := gOb h
    refine g_callV_i (As := []) (rest := [.int q19]) (ctq_DS_advice hY q2.2 _ hq20) d_Law_alike_32 ca_DS_advice w_939 (gXw_q0 hY) rfl rfl rfl (Nat.le_of_ble_eq_true rfl) ⟨Nat.le_trans (Nat.le_of_ble_eq_true rfl) hR.2.2.1, Nat.le_trans (Nat.le_of_ble_eq_true rfl) hR.2.2.2⟩ ?_
    refine g_icmp_ne (tgt := 42) d_Law_alike_35 (by decide) (fun c21 => ?_) (fun c21 => ?_)
    · rw [if_neg c21] at h
      exact t_Law_alike_b42 hl0 hX hY hR (gLe2 hk (Nat.le_of_ble_eq_true rfl)) q2.2 a2 _ h
    · rw [if_pos c21] at h
      refine g_iconst (v := 1) d_Law_alike_38 (by decide) ?_
      refine g_goto (tgt := 43) d_Law_alike_39 (by decide) ?_
      exact t_Law_alike_b43 hl0 hX hY hR (gLe2 hk (Nat.le_of_ble_eq_true rfl)) q2.2 a2 1 _ h
theorem ctk_Law_alike {l : Launch} {ε : gEnv} (hl0 : l.stackTraces = false) (hX : gXw ε) (hY : gXw (swE ε)) (M : gMem) (a2 : Int32) (r : Int32 × gMem) (h : f_Law_alike M a2 = some r) : gCtK l ε k_Law_alike 155 6121 266 [.ref (ε.2.2.1 18 0), .ref (ε.2.2.1 38 0), .int a2] M (some (.int r.1)) r.2 :=
  gCtK_of hl0 (by decide) (Nat.le_of_ble_eq_true rfl) rfl (t_Law_alike hl0 hX hY (gRm_K _ _ _) (Nat.le_of_eq (Nat.zero_add _)) M a2 r h)
theorem d_Law_seen_0 : decode method_28_code 0 = .ok (.aload_n 0, 1) := by decide +kernel
theorem d_Law_seen_1 : decode method_28_code 1 = .ok (.iconst 2, 1) := by decide +kernel
theorem d_Law_seen_2 : decode method_28_code 2 = .ok (.iconst 1, 1) := by decide +kernel
theorem d_Law_seen_3 : decode method_28_code 3 = .ok (.iconst 0, 1) := by decide +kernel
theorem d_Law_seen_4 : decode method_28_code 4 = .ok (.iconst 0, 1) := by decide +kernel
theorem d_Law_seen_5 : decode method_28_code 5 = .ok (.invokestatic 132, 3) := by decide +kernel
theorem d_Law_seen_8 : decode method_28_code 8 = .ok (.iconst 2, 1) := by decide +kernel
theorem d_Law_seen_9 : decode method_28_code 9 = .ok (.if_icmp .eq 5, 3) := by decide +kernel
theorem d_Law_seen_12 : decode method_28_code 12 = .ok (.iconst 1, 1) := by decide +kernel
theorem d_Law_seen_13 : decode method_28_code 13 = .ok (.ireturn, 1) := by decide +kernel
theorem d_Law_seen_14 : decode method_28_code 14 = .ok (.iload_n 1, 1) := by decide +kernel
theorem d_Law_seen_15 : decode method_28_code 15 = .ok (.iconst 4, 1) := by decide +kernel
theorem d_Law_seen_16 : decode method_28_code 16 = .ok (.irem, 1) := by decide +kernel
theorem d_Law_seen_17 : decode method_28_code 17 = .ok (.istore_n 2, 1) := by decide +kernel
theorem d_Law_seen_18 : decode method_28_code 18 = .ok (.iconst 1, 1) := by decide +kernel
theorem d_Law_seen_19 : decode method_28_code 19 = .ok (.istore_n 3, 1) := by decide +kernel
theorem d_Law_seen_20 : decode method_28_code 20 = .ok (.iconst 0, 1) := by decide +kernel
theorem d_Law_seen_21 : decode method_28_code 21 = .ok (.istore 4, 2) := by decide +kernel
theorem d_Law_seen_23 : decode method_28_code 23 = .ok (.iload 4, 2) := by decide +kernel
theorem d_Law_seen_25 : decode method_28_code 25 = .ok (.iconst 4, 1) := by decide +kernel
theorem d_Law_seen_26 : decode method_28_code 26 = .ok (.if_icmp .ge 168, 3) := by decide +kernel
theorem d_Law_seen_29 : decode method_28_code 29 = .ok (.iload_n 3, 1) := by decide +kernel
theorem d_Law_seen_30 : decode method_28_code 30 = .ok (.ifCond .eq 164, 3) := by decide +kernel
theorem d_Law_seen_33 : decode method_28_code 33 = .ok (.iconst 0, 1) := by decide +kernel
theorem d_Law_seen_34 : decode method_28_code 34 = .ok (.istore 5, 2) := by decide +kernel
theorem d_Law_seen_36 : decode method_28_code 36 = .ok (.iload 5, 2) := by decide +kernel
theorem d_Law_seen_38 : decode method_28_code 38 = .ok (.iconst 4, 1) := by decide +kernel
theorem d_Law_seen_39 : decode method_28_code 39 = .ok (.if_icmp .ge 149, 3) := by decide +kernel
theorem d_Law_seen_42 : decode method_28_code 42 = .ok (.iload_n 3, 1) := by decide +kernel
theorem d_Law_seen_43 : decode method_28_code 43 = .ok (.ifCond .eq 145, 3) := by decide +kernel
theorem d_Law_seen_46 : decode method_28_code 46 = .ok (.iload 4, 2) := by decide +kernel
theorem d_Law_seen_48 : decode method_28_code 48 = .ok (.iload_n 2, 1) := by decide +kernel
theorem d_Law_seen_49 : decode method_28_code 49 = .ok (.if_icmp .eq 139, 3) := by decide +kernel
theorem d_Law_seen_52 : decode method_28_code 52 = .ok (.aload_n 0, 1) := by decide +kernel
theorem d_Law_seen_53 : decode method_28_code 53 = .ok (.iload_n 2, 1) := by decide +kernel
theorem d_Law_seen_54 : decode method_28_code 54 = .ok (.iload 4, 2) := by decide +kernel
theorem d_Law_seen_56 : decode method_28_code 56 = .ok (.iload 5, 2) := by decide +kernel
theorem d_Law_seen_58 : decode method_28_code 58 = .ok (.iconst 0, 1) := by decide +kernel
theorem d_Law_seen_59 : decode method_28_code 59 = .ok (.invokestatic 136, 3) := by decide +kernel
theorem d_Law_seen_62 : decode method_28_code 62 = .ok (.istore 6, 2) := by decide +kernel
theorem d_Law_seen_64 : decode method_28_code 64 = .ok (.aload_n 0, 1) := by decide +kernel
theorem d_Law_seen_65 : decode method_28_code 65 = .ok (.iload_n 2, 1) := by decide +kernel
theorem d_Law_seen_66 : decode method_28_code 66 = .ok (.iload 4, 2) := by decide +kernel
theorem d_Law_seen_68 : decode method_28_code 68 = .ok (.iload 5, 2) := by decide +kernel
theorem d_Law_seen_70 : decode method_28_code 70 = .ok (.iconst 1, 1) := by decide +kernel
theorem d_Law_seen_71 : decode method_28_code 71 = .ok (.invokestatic 136, 3) := by decide +kernel
theorem d_Law_seen_74 : decode method_28_code 74 = .ok (.istore 7, 2) := by decide +kernel
theorem d_Law_seen_76 : decode method_28_code 76 = .ok (.aload_n 0, 1) := by decide +kernel
theorem d_Law_seen_77 : decode method_28_code 77 = .ok (.iconst 4, 1) := by decide +kernel
theorem d_Law_seen_78 : decode method_28_code 78 = .ok (.iload 4, 2) := by decide +kernel
theorem d_Law_seen_80 : decode method_28_code 80 = .ok (.iload 5, 2) := by decide +kernel
theorem d_Law_seen_82 : decode method_28_code 82 = .ok (.iconst 0, 1) := by decide +kernel
theorem d_Law_seen_83 : decode method_28_code 83 = .ok (.invokestatic 132, 3) := by decide +kernel
theorem d_Law_seen_86 : decode method_28_code 86 = .ok (.istore 8, 2) := by decide +kernel
theorem d_Law_seen_88 : decode method_28_code 88 = .ok (.iload 6, 2) := by decide +kernel
theorem d_Law_seen_90 : decode method_28_code 90 = .ok (.iload 8, 2) := by decide +kernel
theorem d_Law_seen_92 : decode method_28_code 92 = .ok (.ishr, 1) := by decide +kernel
theorem d_Law_seen_93 : decode method_28_code 93 = .ok (.iconst 1, 1) := by decide +kernel
theorem d_Law_seen_94 : decode method_28_code 94 = .ok (.iand, 1) := by decide +kernel
theorem d_Law_seen_95 : decode method_28_code 95 = .ok (.iconst 1, 1) := by decide +kernel
theorem d_Law_seen_96 : decode method_28_code 96 = .ok (.if_icmp .ne 84, 3) := by decide +kernel
theorem d_Law_seen_99 : decode method_28_code 99 = .ok (.iload 7, 2) := by decide +kernel
theorem d_Law_seen_101 : decode method_28_code 101 = .ok (.iload 6, 2) := by decide +kernel
theorem d_Law_seen_103 : decode method_28_code 103 = .ok (.iconst (-1), 1) := by decide +kernel
theorem d_Law_seen_104 : decode method_28_code 104 = .ok (.ixor, 1) := by decide +kernel
theorem d_Law_seen_105 : decode method_28_code 105 = .ok (.iand, 1) := by decide +kernel
theorem d_Law_seen_106 : decode method_28_code 106 = .ok (.ifCond .ne 74, 3) := by decide +kernel
theorem d_Law_seen_109 : decode method_28_code 109 = .ok (.iload 7, 2) := by decide +kernel
theorem d_Law_seen_111 : decode method_28_code 111 = .ok (.iload 8, 2) := by decide +kernel
theorem d_Law_seen_113 : decode method_28_code 113 = .ok (.ishr, 1) := by decide +kernel
theorem d_Law_seen_114 : decode method_28_code 114 = .ok (.iconst 1, 1) := by decide +kernel
theorem d_Law_seen_115 : decode method_28_code 115 = .ok (.iand, 1) := by decide +kernel
theorem d_Law_seen_116 : decode method_28_code 116 = .ok (.aload_n 0, 1) := by decide +kernel
theorem d_Law_seen_117 : decode method_28_code 117 = .ok (.iconst 4, 1) := by decide +kernel
theorem d_Law_seen_118 : decode method_28_code 118 = .ok (.iload 4, 2) := by decide +kernel
theorem d_Law_seen_120 : decode method_28_code 120 = .ok (.iload 5, 2) := by decide +kernel
theorem d_Law_seen_122 : decode method_28_code 122 = .ok (.iconst 4, 1) := by decide +kernel
theorem d_Law_seen_123 : decode method_28_code 123 = .ok (.invokestatic 132, 3) := by decide +kernel
theorem d_Law_seen_126 : decode method_28_code 126 = .ok (.ifCond .ne 7, 3) := by decide +kernel
theorem d_Law_seen_129 : decode method_28_code 129 = .ok (.iconst 0, 1) := by decide +kernel
theorem d_Law_seen_130 : decode method_28_code 130 = .ok (.goto 4, 3) := by decide +kernel
theorem d_Law_seen_133 : decode method_28_code 133 = .ok (.iconst 1, 1) := by decide +kernel
theorem d_Law_seen_134 : decode method_28_code 134 = .ok (.if_icmp .ne 46, 3) := by decide +kernel
theorem d_Law_seen_137 : decode method_28_code 137 = .ok (.aload_n 0, 1) := by decide +kernel
theorem d_Law_seen_138 : decode method_28_code 138 = .ok (.iconst 4, 1) := by decide +kernel
theorem d_Law_seen_139 : decode method_28_code 139 = .ok (.iload 4, 2) := by decide +kernel
theorem d_Law_seen_141 : decode method_28_code 141 = .ok (.iload 5, 2) := by decide +kernel
theorem d_Law_seen_143 : decode method_28_code 143 = .ok (.iconst 3, 1) := by decide +kernel
theorem d_Law_seen_144 : decode method_28_code 144 = .ok (.invokestatic 132, 3) := by decide +kernel
theorem d_Law_seen_147 : decode method_28_code 147 = .ok (.ifCond .gt 10, 3) := by decide +kernel
theorem d_Law_seen_150 : decode method_28_code 150 = .ok (.iload 7, 2) := by decide +kernel
theorem d_Law_seen_152 : decode method_28_code 152 = .ok (.iload 6, 2) := by decide +kernel
theorem d_Law_seen_154 : decode method_28_code 154 = .ok (.if_icmp .ne 26, 3) := by decide +kernel
theorem d_Law_seen_157 : decode method_28_code 157 = .ok (.aload_n 0, 1) := by decide +kernel
theorem d_Law_seen_158 : decode method_28_code 158 = .ok (.iconst 4, 1) := by decide +kernel
theorem d_Law_seen_159 : decode method_28_code 159 = .ok (.iload 4, 2) := by decide +kernel
theorem d_Law_seen_161 : decode method_28_code 161 = .ok (.iload 5, 2) := by decide +kernel
theorem d_Law_seen_163 : decode method_28_code 163 = .ok (.iconst 5, 1) := by decide +kernel
theorem d_Law_seen_164 : decode method_28_code 164 = .ok (.invokestatic 132, 3) := by decide +kernel
theorem d_Law_seen_167 : decode method_28_code 167 = .ok (.ifCond .eq 9, 3) := by decide +kernel
theorem d_Law_seen_170 : decode method_28_code 170 = .ok (.iload 6, 2) := by decide +kernel
theorem d_Law_seen_172 : decode method_28_code 172 = .ok (.iconst 1, 1) := by decide +kernel
theorem d_Law_seen_173 : decode method_28_code 173 = .ok (.if_icmp .ne 7, 3) := by decide +kernel
theorem d_Law_seen_176 : decode method_28_code 176 = .ok (.iconst 1, 1) := by decide +kernel
theorem d_Law_seen_177 : decode method_28_code 177 = .ok (.goto 4, 3) := by decide +kernel
theorem d_Law_seen_180 : decode method_28_code 180 = .ok (.iconst 0, 1) := by decide +kernel
theorem d_Law_seen_181 : decode method_28_code 181 = .ok (.istore_n 3, 1) := by decide +kernel
theorem d_Law_seen_182 : decode method_28_code 182 = .ok (.iinc 5 1, 3) := by decide +kernel
theorem d_Law_seen_185 : decode method_28_code 185 = .ok (.goto (-149), 3) := by decide +kernel
theorem d_Law_seen_188 : decode method_28_code 188 = .ok (.iinc 4 1, 3) := by decide +kernel
theorem d_Law_seen_191 : decode method_28_code 191 = .ok (.goto (-168), 3) := by decide +kernel
theorem d_Law_seen_194 : decode method_28_code 194 = .ok (.iload_n 3, 1) := by decide +kernel
theorem d_Law_seen_195 : decode method_28_code 195 = .ok (.ireturn, 1) := by decide +kernel
abbrev k_Law_seen : gMD := (⟨"DropSignalsLaw", "seen", "(LDropSignals;I)Z"⟩, method_28_code, 9, (some .boolean))
theorem w_960 : Cond.static ⟨"DropSignalsLaw", "seen", "(LDropSignals;I)Z"⟩ ∈ gWs := gWs_in (i := 960) (by decide +kernel) rfl
set_option maxRecDepth 100000 in
theorem ca_Law_seen : gCaS k_Law_seen 2 := ⟨⟨gWs_in (i := 961) rfl rfl, w_19, by decide, by decide, by decide +kernel⟩, w_960⟩
noncomputable def f_Law_seen_b181_36 (M : gMem) (x2 : Int32) (x4 : Int32) (x5 : Int32) (s0 : Int32) : Option ((Int32 × Int32 × gMem) ⊕ (Int32 × Int32 × gMem)) :=
  some (.inl (s0, (x5 + 1), M))
theorem t_Law_seen_b181_36 {l : Launch} {ε : gEnv} (hl0 : l.stackTraces = false) (hX : gXw ε) {R : Room} {T : gTT} {Z : gZZ} {k0 n0 K ka kb : Nat} (hT : gTok T) (hR : gRm R k0 n0 K 155 6121) (hk : ka + 0 ≤ kb) (hb : kb ≤ K) (M : gMem) (x2 : Int32) (x4 : Int32) (x5 : Int32) (s0 : Int32) (res : ((Int32 × Int32 × gMem) ⊕ (Int32 × Int32 × gMem))) (h : f_Law_seen_b181_36 M x2 x4 x5 s0 = some res) (k1 : ∀ s0 : (Int32 × Int32 × gMem), res = .inl s0 → gGo l ε k_Law_seen R (gFg T Z k0 n0 kb) 36 [(0, .ref (ε.2.2.1 18 0)), (2, .int x2), (3, .int s0.1), (4, .int x4), (5, .int s0.2.1)] [] s0.2.2) (k2 : ∀ s0 : (Int32 × Int32 × gMem), res = .inr s0 → gGo l ε k_Law_seen R (gFg T Z k0 n0 kb) 188 [(0, .ref (ε.2.2.1 18 0)), (2, .int x2), (3, .int s0.1), (4, .int x4), (5, .int s0.2.1)] [] s0.2.2) : gGo l ε k_Law_seen R (gFg T Z k0 n0 ka) 181 [(0, .ref (ε.2.2.1 18 0)), (2, .int x2), (4, .int x4), (5, .int x5)] [.int s0] M := by
  unfold f_Law_seen_b181_36 at h
  refine g_istore_n (L' := [(3, .int s0), (0, .ref (ε.2.2.1 18 0)), (2, .int x2), (4, .int x4), (5, .int x5)]) d_Law_seen_181 rfl (by decide) rfl ?_
  refine g_iinc (v := (x5 + 1)) (L' := [(5, .int (x5 + 1)), (3, .int s0), (0, .ref (ε.2.2.1 18 0)), (2, .int x2), (4, .int x4)]) d_Law_seen_182 (j := 4) rfl rfl (by decide) rfl ?_
  refine g_goto (tgt := 36) d_Law_seen_185 (by decide) ?_
  refine gGo_sub [2, 3, 1, 4, 0] rfl ?_
  obtain rfl := Option.some.inj h
  exact g_useK hR (gLe0 hk) hb (k1 (s0, (x5 + 1), M) rfl)
noncomputable def f_Law_seen_b180_36 (M : gMem) (x2 : Int32) (x4 : Int32) (x5 : Int32) : Option ((Int32 × Int32 × gMem) ⊕ (Int32 × Int32 × gMem)) :=
  f_Law_seen_b181_36 M x2 x4 x5 0
theorem t_Law_seen_b180_36 {l : Launch} {ε : gEnv} (hl0 : l.stackTraces = false) (hX : gXw ε) {R : Room} {T : gTT} {Z : gZZ} {k0 n0 K ka kb : Nat} (hT : gTok T) (hR : gRm R k0 n0 K 155 6121) (hk : ka + 0 ≤ kb) (hb : kb ≤ K) (M : gMem) (x2 : Int32) (x4 : Int32) (x5 : Int32) (res : ((Int32 × Int32 × gMem) ⊕ (Int32 × Int32 × gMem))) (h : f_Law_seen_b180_36 M x2 x4 x5 = some res) (k1 : ∀ s0 : (Int32 × Int32 × gMem), res = .inl s0 → gGo l ε k_Law_seen R (gFg T Z k0 n0 kb) 36 [(0, .ref (ε.2.2.1 18 0)), (2, .int x2), (3, .int s0.1), (4, .int x4), (5, .int s0.2.1)] [] s0.2.2) (k2 : ∀ s0 : (Int32 × Int32 × gMem), res = .inr s0 → gGo l ε k_Law_seen R (gFg T Z k0 n0 kb) 188 [(0, .ref (ε.2.2.1 18 0)), (2, .int x2), (3, .int s0.1), (4, .int x4), (5, .int s0.2.1)] [] s0.2.2) : gGo l ε k_Law_seen R (gFg T Z k0 n0 ka) 180 [(0, .ref (ε.2.2.1 18 0)), (2, .int x2), (4, .int x4), (5, .int x5)] [] M := by
  unfold f_Law_seen_b180_36 at h
  refine g_iconst (v := 0) d_Law_seen_180 (by decide) ?_
  exact t_Law_seen_b181_36 hl0 hX hT hR (gLe hk (Nat.le_of_ble_eq_true rfl)) hb M x2 x4 x5 0 _ h k1 k2
noncomputable def f_Law_seen_b176_36 (M : gMem) (x2 : Int32) (x4 : Int32) (x5 : Int32) : Option ((Int32 × Int32 × gMem) ⊕ (Int32 × Int32 × gMem)) :=
  f_Law_seen_b181_36 M x2 x4 x5 1
theorem t_Law_seen_b176_36 {l : Launch} {ε : gEnv} (hl0 : l.stackTraces = false) (hX : gXw ε) {R : Room} {T : gTT} {Z : gZZ} {k0 n0 K ka kb : Nat} (hT : gTok T) (hR : gRm R k0 n0 K 155 6121) (hk : ka + 0 ≤ kb) (hb : kb ≤ K) (M : gMem) (x2 : Int32) (x4 : Int32) (x5 : Int32) (res : ((Int32 × Int32 × gMem) ⊕ (Int32 × Int32 × gMem))) (h : f_Law_seen_b176_36 M x2 x4 x5 = some res) (k1 : ∀ s0 : (Int32 × Int32 × gMem), res = .inl s0 → gGo l ε k_Law_seen R (gFg T Z k0 n0 kb) 36 [(0, .ref (ε.2.2.1 18 0)), (2, .int x2), (3, .int s0.1), (4, .int x4), (5, .int s0.2.1)] [] s0.2.2) (k2 : ∀ s0 : (Int32 × Int32 × gMem), res = .inr s0 → gGo l ε k_Law_seen R (gFg T Z k0 n0 kb) 188 [(0, .ref (ε.2.2.1 18 0)), (2, .int x2), (3, .int s0.1), (4, .int x4), (5, .int s0.2.1)] [] s0.2.2) : gGo l ε k_Law_seen R (gFg T Z k0 n0 ka) 176 [(0, .ref (ε.2.2.1 18 0)), (2, .int x2), (4, .int x4), (5, .int x5)] [] M := by
  unfold f_Law_seen_b176_36 at h
  refine g_iconst (v := 1) d_Law_seen_176 (by decide) ?_
  refine g_goto (tgt := 181) d_Law_seen_177 (by decide) ?_
  exact t_Law_seen_b181_36 hl0 hX hT hR (gLe hk (Nat.le_of_ble_eq_true rfl)) hb M x2 x4 x5 1 _ h k1 k2
noncomputable def f_Law_seen_b157_36 (M : gMem) (x2 : Int32) (x4 : Int32) (x5 : Int32) (x6 : Int32) : Option ((Int32 × Int32 × gMem) ⊕ (Int32 × Int32 × gMem)) :=
  (f_Law_call M 4 x4 x5 5).bind fun q7 =>
  if q7.1 = 0 then
    f_Law_seen_b176_36 q7.2 x2 x4 x5
  else
    if x6 = 1 then
      f_Law_seen_b176_36 q7.2 x2 x4 x5
    else
      f_Law_seen_b180_36 q7.2 x2 x4 x5
theorem t_Law_seen_b157_36 {l : Launch} {ε : gEnv} (hl0 : l.stackTraces = false) (hX : gXw ε) {R : Room} {T : gTT} {Z : gZZ} {k0 n0 K ka kb : Nat} (hT : gTok T) (hR : gRm R k0 n0 K 155 6121) (hk : ka + 1 ≤ kb) (hb : kb ≤ K) (M : gMem) (x2 : Int32) (x4 : Int32) (x5 : Int32) (x6 : Int32) (res : ((Int32 × Int32 × gMem) ⊕ (Int32 × Int32 × gMem))) (h : f_Law_seen_b157_36 M x2 x4 x5 x6 = some res) (k1 : ∀ s0 : (Int32 × Int32 × gMem), res = .inl s0 → gGo l ε k_Law_seen R (gFg T Z k0 n0 kb) 36 [(0, .ref (ε.2.2.1 18 0)), (2, .int x2), (3, .int s0.1), (4, .int x4), (5, .int s0.2.1)] [] s0.2.2) (k2 : ∀ s0 : (Int32 × Int32 × gMem), res = .inr s0 → gGo l ε k_Law_seen R (gFg T Z k0 n0 kb) 188 [(0, .ref (ε.2.2.1 18 0)), (2, .int x2), (3, .int s0.1), (4, .int x4), (5, .int s0.2.1)] [] s0.2.2) : gGo l ε k_Law_seen R (gFg T Z k0 n0 ka) 157 [(0, .ref (ε.2.2.1 18 0)), (2, .int x2), (4, .int x4), (5, .int x5), (6, .int x6)] [] M := by
  unfold f_Law_seen_b157_36 at h
  refine g_aload_n d_Law_seen_157 rfl 0 rfl ?_
  refine g_iconst (v := 4) d_Law_seen_158 (by decide) ?_
  refine g_iload d_Law_seen_159 2 rfl ?_
  refine g_iload d_Law_seen_161 3 rfl ?_
  refine g_iconst (v := 5) d_Law_seen_163 (by decide) ?_
  obtain ⟨q7, hq7, h⟩ := gOb h
  refine g_callK (kb := (ka + 1)) (As := [.ref (ε.2.2.1 18 0), .int 4, .int x4, .int x5, .int 5]) (rest := []) hT hR (fun _ => ctk_Law_call hl0 hX M 4 x4 x5 5 _ hq7) d_Law_seen_164 ca_Law_call w_281 rfl rfl (Nat.le_of_ble_eq_true rfl) ⟨(Nat.le_of_ble_eq_true rfl), (Nat.le_of_ble_eq_true rfl)⟩ (Nat.le_refl _) (Nat.le_trans (gLe hk (Nat.le_of_ble_eq_true rfl)) hb) ?_
  refine g_if_eq (tgt := 176) d_Law_seen_167 (by decide) (fun c9 => ?_) (fun c9 => ?_)
  · rw [if_pos c9] at h
    refine gGo_sub [0, 1, 2, 3] rfl ?_
    exact t_Law_seen_b176_36 hl0 hX hT hR (gLe2 hk (Nat.le_of_ble_eq_true rfl)) hb q7.2 x2 x4 x5 _ h k1 k2
  · rw [if_neg c9] at h
    refine g_iload d_Law_seen_170 4 rfl ?_
    refine g_iconst (v := 1) d_Law_seen_172 (by decide) ?_
    refine g_icmp_ne (tgt := 180) d_Law_seen_173 (by decide) (fun c8 => ?_) (fun c8 => ?_)
    · rw [if_neg c8] at h
      refine gGo_sub [0, 1, 2, 3] rfl ?_
      exact t_Law_seen_b180_36 hl0 hX hT hR (gLe2 hk (Nat.le_of_ble_eq_true rfl)) hb q7.2 x2 x4 x5 _ h k1 k2
    · rw [if_pos c8] at h
      refine gGo_sub [0, 1, 2, 3] rfl ?_
      exact t_Law_seen_b176_36 hl0 hX hT hR (gLe2 hk (Nat.le_of_ble_eq_true rfl)) hb q7.2 x2 x4 x5 _ h k1 k2
noncomputable def f_Law_seen_b134_36 (M : gMem) (x2 : Int32) (x4 : Int32) (x5 : Int32) (x6 : Int32) (x7 : Int32) (s0 : Int32) (s1 : Int32) : Option ((Int32 × Int32 × gMem) ⊕ (Int32 × Int32 × gMem)) :=
  if s1 = s0 then
    (f_Law_call M 4 x4 x5 3).bind fun q6 =>
    if 0 < q6.1 then
      f_Law_seen_b157_36 q6.2 x2 x4 x5 x6
    else
      if x7 = x6 then
        f_Law_seen_b157_36 q6.2 x2 x4 x5 x6
      else
        f_Law_seen_b180_36 q6.2 x2 x4 x5
  else
    f_Law_seen_b180_36 M x2 x4 x5
theorem t_Law_seen_b134_36 {l : Launch} {ε : gEnv} (hl0 : l.stackTraces = false) (hX : gXw ε) {R : Room} {T : gTT} {Z : gZZ} {k0 n0 K ka kb : Nat} (hT : gTok T) (hR : gRm R k0 n0 K 155 6121) (hk : ka + 2 ≤ kb) (hb : kb ≤ K) (M : gMem) (x2 : Int32) (x4 : Int32) (x5 : Int32) (x6 : Int32) (x7 : Int32) (s0 : Int32) (s1 : Int32) (res : ((Int32 × Int32 × gMem) ⊕ (Int32 × Int32 × gMem))) (h : f_Law_seen_b134_36 M x2 x4 x5 x6 x7 s0 s1 = some res) (k1 : ∀ s0 : (Int32 × Int32 × gMem), res = .inl s0 → gGo l ε k_Law_seen R (gFg T Z k0 n0 kb) 36 [(0, .ref (ε.2.2.1 18 0)), (2, .int x2), (3, .int s0.1), (4, .int x4), (5, .int s0.2.1)] [] s0.2.2) (k2 : ∀ s0 : (Int32 × Int32 × gMem), res = .inr s0 → gGo l ε k_Law_seen R (gFg T Z k0 n0 kb) 188 [(0, .ref (ε.2.2.1 18 0)), (2, .int x2), (3, .int s0.1), (4, .int x4), (5, .int s0.2.1)] [] s0.2.2) : gGo l ε k_Law_seen R (gFg T Z k0 n0 ka) 134 [(0, .ref (ε.2.2.1 18 0)), (2, .int x2), (4, .int x4), (5, .int x5), (6, .int x6), (7, .int x7)] [.int s0, .int s1] M := by
  unfold f_Law_seen_b134_36 at h
  refine g_icmp_ne (tgt := 180) d_Law_seen_134 (by decide) (fun c12 => ?_) (fun c12 => ?_)
  · rw [if_neg c12] at h
    refine gGo_sub [0, 1, 2, 3] rfl ?_
    exact t_Law_seen_b180_36 hl0 hX hT hR (gLe hk (Nat.le_of_ble_eq_true rfl)) hb M x2 x4 x5 _ h k1 k2
  · rw [if_pos c12] at h
    refine g_aload_n d_Law_seen_137 rfl 0 rfl ?_
    refine g_iconst (v := 4) d_Law_seen_138 (by decide) ?_
    refine g_iload d_Law_seen_139 2 rfl ?_
    refine g_iload d_Law_seen_141 3 rfl ?_
    refine g_iconst (v := 3) d_Law_seen_143 (by decide) ?_
    obtain ⟨q6, hq6, h⟩ := gOb h
    refine g_callK (kb := (ka + 1)) (As := [.ref (ε.2.2.1 18 0), .int 4, .int x4, .int x5, .int 3]) (rest := []) hT hR (fun _ => ctk_Law_call hl0 hX M 4 x4 x5 3 _ hq6) d_Law_seen_144 ca_Law_call w_281 rfl rfl (Nat.le_of_ble_eq_true rfl) ⟨(Nat.le_of_ble_eq_true rfl), (Nat.le_of_ble_eq_true rfl)⟩ (Nat.le_refl _) (Nat.le_trans (gLe hk (Nat.le_of_ble_eq_true rfl)) hb) ?_
    refine g_if_gt (tgt := 157) d_Law_seen_147 (by decide) (fun c11 => ?_) (fun c11 => ?_)
    · rw [if_pos c11] at h
      refine gGo_sub [0, 1, 2, 3, 4] rfl ?_
      exact t_Law_seen_b157_36 hl0 hX hT hR (gLe2 hk (Nat.le_of_ble_eq_true rfl)) hb q6.2 x2 x4 x5 x6 _ h k1 k2
    · rw [if_neg c11] at h
      refine g_iload d_Law_seen_150 5 rfl ?_
      refine g_iload d_Law_seen_152 4 rfl ?_
      refine g_icmp_ne (tgt := 180) d_Law_seen_154 (by decide) (fun c10 => ?_) (fun c10 => ?_)
      · rw [if_neg c10] at h
        refine gGo_sub [0, 1, 2, 3] rfl ?_
        exact t_Law_seen_b180_36 hl0 hX hT hR (gLe2 hk (Nat.le_of_ble_eq_true rfl)) hb q6.2 x2 x4 x5 _ h k1 k2
      · rw [if_pos c10] at h
        refine gGo_sub [0, 1, 2, 3, 4] rfl ?_
        exact t_Law_seen_b157_36 hl0 hX hT hR (gLe2 hk (Nat.le_of_ble_eq_true rfl)) hb q6.2 x2 x4 x5 x6 _ h k1 k2
noncomputable def f_Law_seen_s36 (M : gMem) (x2 : Int32) (x3 : Int32) (x4 : Int32) (x5 : Int32) : Option ((Int32 × Int32 × gMem) ⊕ (Int32 × Int32 × gMem)) :=
  if 4 ≤ x5 then
    some (.inr (x3, x5, M))
  else
    if x3 = 0 then
      some (.inr (x3, x5, M))
    else
      if x4 = x2 then
        some (.inr (x3, x5, M))
      else
        (f_Law_may M x2 x4 x5 0).bind fun q2 =>
        (f_Law_may q2.2 x2 x4 x5 1).bind fun q3 =>
        (f_Law_call q3.2 4 x4 x5 0).bind fun q4 =>
        if ((q2.1 >>> (q4.1 &&& 31)) &&& 1) = 1 then
          if (q3.1 &&& (q2.1 ^^^ (-1))) = 0 then
            (f_Law_call q4.2 4 x4 x5 4).bind fun q5 =>
            if q5.1 = 0 then
              f_Law_seen_b134_36 q5.2 x2 x4 x5 q2.1 q3.1 0 ((q3.1 >>> (q4.1 &&& 31)) &&& 1)
            else
              f_Law_seen_b134_36 q5.2 x2 x4 x5 q2.1 q3.1 1 ((q3.1 >>> (q4.1 &&& 31)) &&& 1)
          else
            f_Law_seen_b180_36 q4.2 x2 x4 x5
        else
          f_Law_seen_b180_36 q4.2 x2 x4 x5
theorem t_Law_seen_s36 {l : Launch} {ε : gEnv} (hl0 : l.stackTraces = false) (hX : gXw ε) {R : Room} {T : gTT} {Z : gZZ} {k0 n0 K ka kb : Nat} (hT : gTok T) (hR : gRm R k0 n0 K 155 6121) (hk : ka + 6 ≤ kb) (hb : kb ≤ K) (M : gMem) (x2 : Int32) (x3 : Int32) (x4 : Int32) (x5 : Int32) (res : ((Int32 × Int32 × gMem) ⊕ (Int32 × Int32 × gMem))) (h : f_Law_seen_s36 M x2 x3 x4 x5 = some res) (k1 : ∀ s0 : (Int32 × Int32 × gMem), res = .inl s0 → gGo l ε k_Law_seen R (gFg T Z k0 n0 kb) 36 [(0, .ref (ε.2.2.1 18 0)), (2, .int x2), (3, .int s0.1), (4, .int x4), (5, .int s0.2.1)] [] s0.2.2) (k2 : ∀ s0 : (Int32 × Int32 × gMem), res = .inr s0 → gGo l ε k_Law_seen R (gFg T Z k0 n0 kb) 188 [(0, .ref (ε.2.2.1 18 0)), (2, .int x2), (3, .int s0.1), (4, .int x4), (5, .int s0.2.1)] [] s0.2.2) : gGo l ε k_Law_seen R (gFg T Z k0 n0 ka) 36 [(0, .ref (ε.2.2.1 18 0)), (2, .int x2), (3, .int x3), (4, .int x4), (5, .int x5)] [] M := by
  unfold f_Law_seen_s36 at h
  refine g_iload d_Law_seen_36 4 rfl ?_
  refine g_iconst (v := 4) d_Law_seen_38 (by decide) ?_
  refine g_icmp_ge (tgt := 188) d_Law_seen_39 (by decide) (fun c18 => ?_) (fun c18 => ?_)
  · rw [if_pos c18] at h
    obtain rfl := Option.some.inj h
    exact g_useK hR (gLe0 hk) hb (k2 (x3, x5, M) rfl)
  · rw [if_neg c18] at h
    refine g_iload_n d_Law_seen_42 rfl 2 rfl ?_
    refine g_if_eq (tgt := 188) d_Law_seen_43 (by decide) (fun c17 => ?_) (fun c17 => ?_)
    · rw [if_pos c17] at h
      obtain rfl := Option.some.inj h
      exact g_useK hR (gLe0 hk) hb (k2 (x3, x5, M) rfl)
    · rw [if_neg c17] at h
      refine g_iload d_Law_seen_46 3 rfl ?_
      refine g_iload_n d_Law_seen_48 rfl 1 rfl ?_
      refine g_icmp_eq (tgt := 188) d_Law_seen_49 (by decide) (fun c16 => ?_) (fun c16 => ?_)
      · rw [if_pos c16] at h
        obtain rfl := Option.some.inj h
        exact g_useK hR (gLe0 hk) hb (k2 (x3, x5, M) rfl)
      · rw [if_neg c16] at h
        refine g_aload_n d_Law_seen_52 rfl 0 rfl ?_
        refine g_iload_n d_Law_seen_53 rfl 1 rfl ?_
        refine g_iload d_Law_seen_54 3 rfl ?_
        refine g_iload d_Law_seen_56 4 rfl ?_
        refine g_iconst (v := 0) d_Law_seen_58 (by decide) ?_
        obtain ⟨q2, hq2, h⟩ := gOb h
        refine g_callT (j := 5) (kb := (ka + 1)) (As := [.ref (ε.2.2.1 18 0), .int x2, .int x4, .int x5, .int 0]) (rest := []) hT hR (fun _ => ctl_Law_may hl0 hX M x2 x4 x5 0 _ hq2) d_Law_seen_59 cw_Law_may w_19 w_874 w_873 (by decide +kernel) rfl rfl (Nat.le_of_ble_eq_true rfl) ⟨(Nat.le_of_ble_eq_true rfl), (Nat.le_of_ble_eq_true rfl)⟩ (Nat.le_refl _) (Nat.le_trans (gLe hk (Nat.le_of_ble_eq_true rfl)) hb) ?_
        refine g_istore (L' := [(6, .int q2.1), (0, .ref (ε.2.2.1 18 0)), (2, .int x2), (3, .int x3), (4, .int x4), (5, .int x5)]) d_Law_seen_62 (by decide) rfl ?_
        refine g_aload_n d_Law_seen_64 rfl 1 rfl ?_
        refine g_iload_n d_Law_seen_65 rfl 2 rfl ?_
        refine g_iload d_Law_seen_66 4 rfl ?_
        refine g_iload d_Law_seen_68 5 rfl ?_
        refine g_iconst (v := 1) d_Law_seen_70 (by decide) ?_
        obtain ⟨q3, hq3, h⟩ := gOb h
        refine g_callT (j := 5) (kb := (ka + 2)) (As := [.ref (ε.2.2.1 18 0), .int x2, .int x4, .int x5, .int 1]) (rest := []) hT hR (fun _ => ctl_Law_may hl0 hX q2.2 x2 x4 x5 1 _ hq3) d_Law_seen_71 cw_Law_may w_19 w_874 w_873 (by decide +kernel) rfl rfl (Nat.le_of_ble_eq_true rfl) ⟨(Nat.le_of_ble_eq_true rfl), (Nat.le_of_ble_eq_true rfl)⟩ (Nat.le_refl _) (Nat.le_trans (gLe hk (Nat.le_of_ble_eq_true rfl)) hb) ?_
        refine g_istore (L' := [(7, .int q3.1), (6, .int q2.1), (0, .ref (ε.2.2.1 18 0)), (2, .int x2), (3, .int x3), (4, .int x4), (5, .int x5)]) d_Law_seen_74 (by decide) rfl ?_
        refine g_aload_n d_Law_seen_76 rfl 2 rfl ?_
        refine g_iconst (v := 4) d_Law_seen_77 (by decide) ?_
        refine g_iload d_Law_seen_78 5 rfl ?_
        refine g_iload d_Law_seen_80 6 rfl ?_
        refine g_iconst (v := 0) d_Law_seen_82 (by decide) ?_
        obtain ⟨q4, hq4, h⟩ := gOb h
        refine g_callK (kb := (ka + 3)) (As := [.ref (ε.2.2.1 18 0), .int 4, .int x4, .int x5, .int 0]) (rest := []) hT hR (fun _ => ctk_Law_call hl0 hX q3.2 4 x4 x5 0 _ hq4) d_Law_seen_83 ca_Law_call w_281 rfl rfl (Nat.le_of_ble_eq_true rfl) ⟨(Nat.le_of_ble_eq_true rfl), (Nat.le_of_ble_eq_true rfl)⟩ (Nat.le_refl _) (Nat.le_trans (gLe hk (Nat.le_of_ble_eq_true rfl)) hb) ?_
        refine g_istore (L' := [(8, .int q4.1), (7, .int q3.1), (6, .int q2.1), (0, .ref (ε.2.2.1 18 0)), (2, .int x2), (3, .int x3), (4, .int x4), (5, .int x5)]) d_Law_seen_86 (by decide) rfl ?_
        refine g_iload d_Law_seen_88 2 rfl ?_
        refine g_iload d_Law_seen_90 0 rfl ?_
        refine g_ishr d_Law_seen_92 ?_
        refine g_iconst (v := 1) d_Law_seen_93 (by decide) ?_
        refine g_iand d_Law_seen_94 ?_
        refine g_iconst (v := 1) d_Law_seen_95 (by decide) ?_
        refine g_icmp_ne (tgt := 180) d_Law_seen_96 (by decide) (fun c15 => ?_) (fun c15 => ?_)
        · rw [if_neg c15] at h
          refine gGo_sub [3, 4, 6, 7] rfl ?_
          exact t_Law_seen_b180_36 hl0 hX hT hR (gLe2 hk (Nat.le_of_ble_eq_true rfl)) hb q4.2 x2 x4 x5 _ h k1 k2
        · rw [if_pos c15] at h
          refine g_iload d_Law_seen_99 1 rfl ?_
          refine g_iload d_Law_seen_101 2 rfl ?_
          refine g_iconst (v := -1) d_Law_seen_103 (by decide) ?_
          refine g_ixor d_Law_seen_104 ?_
          refine g_iand d_Law_seen_105 ?_
          refine g_if_ne (tgt := 180) d_Law_seen_106 (by decide) (fun c14 => ?_) (fun c14 => ?_)
          · rw [if_neg c14] at h
            refine gGo_sub [3, 4, 6, 7] rfl ?_
            exact t_Law_seen_b180_36 hl0 hX hT hR (gLe2 hk (Nat.le_of_ble_eq_true rfl)) hb q4.2 x2 x4 x5 _ h k1 k2
          · rw [if_pos c14] at h
            refine g_iload d_Law_seen_109 1 rfl ?_
            refine g_iload d_Law_seen_111 0 rfl ?_
            refine g_ishr d_Law_seen_113 ?_
            refine g_iconst (v := 1) d_Law_seen_114 (by decide) ?_
            refine g_iand d_Law_seen_115 ?_
            refine g_aload_n d_Law_seen_116 rfl 3 rfl ?_
            refine g_iconst (v := 4) d_Law_seen_117 (by decide) ?_
            refine g_iload d_Law_seen_118 6 rfl ?_
            refine g_iload d_Law_seen_120 7 rfl ?_
            refine g_iconst (v := 4) d_Law_seen_122 (by decide) ?_
            obtain ⟨q5, hq5, h⟩ := gOb h
            refine g_callK (kb := (ka + 4)) (As := [.ref (ε.2.2.1 18 0), .int 4, .int x4, .int x5, .int 4]) (rest := [.int ((q3.1 >>> (q4.1 &&& 31)) &&& 1)]) hT hR (fun _ => ctk_Law_call hl0 hX q4.2 4 x4 x5 4 _ hq5) d_Law_seen_123 ca_Law_call w_281 rfl rfl (Nat.le_of_ble_eq_true rfl) ⟨(Nat.le_of_ble_eq_true rfl), (Nat.le_of_ble_eq_true rfl)⟩ (Nat.le_refl _) (Nat.le_trans (gLe hk (Nat.le_of_ble_eq_true rfl)) hb) ?_
            refine g_if_ne (tgt := 133) d_Law_seen_126 (by decide) (fun c13 => ?_) (fun c13 => ?_)
            · rw [if_neg c13] at h
              refine g_iconst (v := 1) d_Law_seen_133 (by decide) ?_
              refine gGo_sub [3, 4, 6, 7, 2, 1] rfl ?_
              exact t_Law_seen_b134_36 hl0 hX hT hR (gLe2 hk (Nat.le_of_ble_eq_true rfl)) hb q5.2 x2 x4 x5 q2.1 q3.1 1 ((q3.1 >>> (q4.1 &&& 31)) &&& 1) _ h k1 k2
            · rw [if_pos c13] at h
              refine g_iconst (v := 0) d_Law_seen_129 (by decide) ?_
              refine g_goto (tgt := 134) d_Law_seen_130 (by decide) ?_
              refine gGo_sub [3, 4, 6, 7, 2, 1] rfl ?_
              exact t_Law_seen_b134_36 hl0 hX hT hR (gLe2 hk (Nat.le_of_ble_eq_true rfl)) hb q5.2 x2 x4 x5 q2.1 q3.1 0 ((q3.1 >>> (q4.1 &&& 31)) &&& 1) _ h k1 k2
noncomputable def f_Law_seen_l36 (x2 : Int32) (x4 : Int32) (j : Nat) (s : (Int32 × Int32 × gMem)) : Option (Int32 × Int32 × gMem) := gIt (fun s => f_Law_seen_s36 s.2.2 x2 s.1 x4 s.2.1) j s
theorem t_Law_seen_l36 {l : Launch} {ε : gEnv} (hl0 : l.stackTraces = false) (hX : gXw ε) {R : Room} {T : gTT} {Z : gZZ} {k0 n0 K : Nat} (hT : gTok T) (hR : gRm R k0 n0 K 155 6121) (x2 : Int32) (x4 : Int32) : ∀ (j : Nat) (s s' : (Int32 × Int32 × gMem)) (ka : Nat), f_Law_seen_l36 x2 x4 j s = some s' → ka + 6 * j ≤ K → gGo l ε k_Law_seen R (gFg T Z k0 n0 (ka + 6 * j)) 188 [(0, .ref (ε.2.2.1 18 0)), (2, .int x2), (3, .int s'.1), (4, .int x4), (5, .int s'.2.1)] [] s'.2.2 → gGo l ε k_Law_seen R (gFg T Z k0 n0 ka) 36 [(0, .ref (ε.2.2.1 18 0)), (2, .int x2), (3, .int s.1), (4, .int x4), (5, .int s.2.1)] [] s.2.2 := by
  intro j
  induction j with
  | zero => intro s s' ka h; cases h
  | succ j ih =>
    intro s s' ka h hk kk
    rcases gIt_s h with ⟨s1, h1, h2⟩ | h1
    · refine t_Law_seen_s36 (kb := ka + 6) hl0 hX hT hR (Nat.le_refl _) (by omega) s.2.2 x2 s.1 x4 s.2.1 (.inl s1) h1 (fun s0 e => ?_) (fun s0 e => nomatch e)
      cases e
      refine ih s1 s' (ka + 6) h2 (by omega) ?_
      rw [show ka + 6 + 6 * j = ka + 6 * (j + 1) by omega]
      exact kk
    · refine t_Law_seen_s36 (kb := ka + 6) hl0 hX hT hR (Nat.le_refl _) (by omega) s.2.2 x2 s.1 x4 s.2.1 (.inr s') h1 (fun s0 e => nomatch e) (fun s0 e => ?_)
      cases e
      exact g_useK hR (by omega) hk kk
noncomputable def f_Law_seen_s23 (M : gMem) (x2 : Int32) (x3 : Int32) (x4 : Int32) : Option ((Int32 × Int32 × gMem) ⊕ (Int32 × Int32 × gMem)) :=
  if 4 ≤ x4 then
    some (.inr (x3, x4, M))
  else
    if x3 = 0 then
      some (.inr (x3, x4, M))
    else
      (f_Law_seen_l36 x2 x4 5 (x3, 0, M)).bind fun q19 =>
      some (.inl (q19.1, (x4 + 1), q19.2.2))
theorem t_Law_seen_s23 {l : Launch} {ε : gEnv} (hl0 : l.stackTraces = false) (hX : gXw ε) {R : Room} {T : gTT} {Z : gZZ} {k0 n0 K ka kb : Nat} (hT : gTok T) (hR : gRm R k0 n0 K 155 6121) (hk : ka + 30 ≤ kb) (hb : kb ≤ K) (M : gMem) (x2 : Int32) (x3 : Int32) (x4 : Int32) (res : ((Int32 × Int32 × gMem) ⊕ (Int32 × Int32 × gMem))) (h : f_Law_seen_s23 M x2 x3 x4 = some res) (k1 : ∀ s0 : (Int32 × Int32 × gMem), res = .inl s0 → gGo l ε k_Law_seen R (gFg T Z k0 n0 kb) 23 [(0, .ref (ε.2.2.1 18 0)), (2, .int x2), (3, .int s0.1), (4, .int s0.2.1)] [] s0.2.2) (k2 : ∀ s0 : (Int32 × Int32 × gMem), res = .inr s0 → gGo l ε k_Law_seen R (gFg T Z k0 n0 kb) 194 [(0, .ref (ε.2.2.1 18 0)), (2, .int x2), (3, .int s0.1), (4, .int s0.2.1)] [] s0.2.2) : gGo l ε k_Law_seen R (gFg T Z k0 n0 ka) 23 [(0, .ref (ε.2.2.1 18 0)), (2, .int x2), (3, .int x3), (4, .int x4)] [] M := by
  unfold f_Law_seen_s23 at h
  refine g_iload d_Law_seen_23 3 rfl ?_
  refine g_iconst (v := 4) d_Law_seen_25 (by decide) ?_
  refine g_icmp_ge (tgt := 194) d_Law_seen_26 (by decide) (fun c21 => ?_) (fun c21 => ?_)
  · rw [if_pos c21] at h
    obtain rfl := Option.some.inj h
    exact g_useK hR (gLe0 hk) hb (k2 (x3, x4, M) rfl)
  · rw [if_neg c21] at h
    refine g_iload_n d_Law_seen_29 rfl 2 rfl ?_
    refine g_if_eq (tgt := 194) d_Law_seen_30 (by decide) (fun c20 => ?_) (fun c20 => ?_)
    · rw [if_pos c20] at h
      obtain rfl := Option.some.inj h
      exact g_useK hR (gLe0 hk) hb (k2 (x3, x4, M) rfl)
    · rw [if_neg c20] at h
      refine g_iconst (v := 0) d_Law_seen_33 (by decide) ?_
      refine g_istore (L' := [(5, .int 0), (0, .ref (ε.2.2.1 18 0)), (2, .int x2), (3, .int x3), (4, .int x4)]) d_Law_seen_34 (by decide) rfl ?_
      obtain ⟨q19, hq19, h⟩ := gOb h
      refine gGo_sub [1, 2, 3, 4, 0] rfl ?_
      refine t_Law_seen_l36 hl0 hX hT hR x2 x4 5 (x3, 0, M) q19 ka hq19 (by omega) ?_
      refine g_useK hR (kb := (ka + 30)) (by omega) (Nat.le_trans (gLe hk (Nat.le_of_ble_eq_true rfl)) hb) ?_
      refine g_iinc (v := (x4 + 1)) (L' := [(4, .int (x4 + 1)), (0, .ref (ε.2.2.1 18 0)), (2, .int x2), (3, .int q19.1), (5, .int q19.2.1)]) d_Law_seen_188 (j := 3) rfl rfl (by decide) rfl ?_
      refine g_goto (tgt := 23) d_Law_seen_191 (by decide) ?_
      refine gGo_sub [1, 2, 3, 0] rfl ?_
      obtain rfl := Option.some.inj h
      exact g_useK hR (gLe hk (Nat.le_of_ble_eq_true rfl)) hb (k1 (q19.1, (x4 + 1), q19.2.2) rfl)
noncomputable def f_Law_seen_l23 (x2 : Int32) (j : Nat) (s : (Int32 × Int32 × gMem)) : Option (Int32 × Int32 × gMem) := gIt (fun s => f_Law_seen_s23 s.2.2 x2 s.1 s.2.1) j s
theorem t_Law_seen_l23 {l : Launch} {ε : gEnv} (hl0 : l.stackTraces = false) (hX : gXw ε) {R : Room} {T : gTT} {Z : gZZ} {k0 n0 K : Nat} (hT : gTok T) (hR : gRm R k0 n0 K 155 6121) (x2 : Int32) : ∀ (j : Nat) (s s' : (Int32 × Int32 × gMem)) (ka : Nat), f_Law_seen_l23 x2 j s = some s' → ka + 30 * j ≤ K → gGo l ε k_Law_seen R (gFg T Z k0 n0 (ka + 30 * j)) 194 [(0, .ref (ε.2.2.1 18 0)), (2, .int x2), (3, .int s'.1), (4, .int s'.2.1)] [] s'.2.2 → gGo l ε k_Law_seen R (gFg T Z k0 n0 ka) 23 [(0, .ref (ε.2.2.1 18 0)), (2, .int x2), (3, .int s.1), (4, .int s.2.1)] [] s.2.2 := by
  intro j
  induction j with
  | zero => intro s s' ka h; cases h
  | succ j ih =>
    intro s s' ka h hk kk
    rcases gIt_s h with ⟨s1, h1, h2⟩ | h1
    · refine t_Law_seen_s23 (kb := ka + 30) hl0 hX hT hR (Nat.le_refl _) (by omega) s.2.2 x2 s.1 s.2.1 (.inl s1) h1 (fun s0 e => ?_) (fun s0 e => nomatch e)
      cases e
      refine ih s1 s' (ka + 30) h2 (by omega) ?_
      rw [show ka + 30 + 30 * j = ka + 30 * (j + 1) by omega]
      exact kk
    · refine t_Law_seen_s23 (kb := ka + 30) hl0 hX hT hR (Nat.le_refl _) (by omega) s.2.2 x2 s.1 s.2.1 (.inr s') h1 (fun s0 e => nomatch e) (fun s0 e => ?_)
      cases e
      exact g_useK hR (by omega) hk kk
noncomputable def f_Law_seen (M : gMem) (a1 : Int32) : Option (Int32 × gMem) :=
  (f_Law_call M 2 1 0 0).bind fun q1 =>
  if q1.1 = 2 then
    (f_Law_seen_l23 (gRem a1 4) 5 (1, 0, q1.2)).bind fun q22 =>
    (gBl q22.1).bind fun _ =>
    some (q22.1, q22.2.2)
  else
    (gBl 1).bind fun _ =>
    some (1, q1.2)
theorem t_Law_seen {l : Launch} {ε : gEnv} (hl0 : l.stackTraces = false) (hX : gXw ε) {R : Room} {K ka : Nat} (hR : gRm R 0 0 K 155 6121) (hk : ka + 151 ≤ K) (M : gMem) (a1 : Int32) (r : Int32 × gMem) (h : f_Law_seen M a1 = some r) : gGo l ε k_Law_seen R (gFk ε K (some (.int r.1)) r.2 ka) 0 [(0, .ref (ε.2.2.1 18 0)), (1, .int a1)] [] M := by
  unfold f_Law_seen at h
  refine g_aload_n d_Law_seen_0 rfl 0 rfl ?_
  refine g_iconst (v := 2) d_Law_seen_1 (by decide) ?_
  refine g_iconst (v := 1) d_Law_seen_2 (by decide) ?_
  refine g_iconst (v := 0) d_Law_seen_3 (by decide) ?_
  refine g_iconst (v := 0) d_Law_seen_4 (by decide) ?_
  obtain ⟨q1, hq1, h⟩ := gOb h
  refine g_callK (kb := (ka + 1)) (As := [.ref (ε.2.2.1 18 0), .int 2, .int 1, .int 0, .int 0]) (rest := []) gTk_ok hR (fun _ => ctk_Law_call hl0 hX M 2 1 0 0 _ hq1) d_Law_seen_5 ca_Law_call w_281 rfl rfl (Nat.le_of_ble_eq_true rfl) ⟨(Nat.le_of_ble_eq_true rfl), (Nat.le_of_ble_eq_true rfl)⟩ (Nat.le_refl _) (gLe hk (Nat.le_of_ble_eq_true rfl)) ?_
  refine g_iconst (v := 2) d_Law_seen_8 (by decide) ?_
  refine g_icmp_eq (tgt := 14) d_Law_seen_9 (by decide) (fun c25 => ?_) (fun c25 => ?_)
  · rw [if_pos c25] at h
    refine g_iload_n d_Law_seen_14 rfl 1 rfl ?_
    refine g_iconst (v := 4) d_Law_seen_15 (by decide) ?_
    refine g_rem d_Law_seen_16 (by decide) ?_
    refine g_istore_n (L' := [(2, .int (gRem a1 4)), (0, .ref (ε.2.2.1 18 0)), (1, .int a1)]) d_Law_seen_17 rfl (by decide) rfl ?_
    refine g_iconst (v := 1) d_Law_seen_18 (by decide) ?_
    refine g_istore_n (L' := [(3, .int 1), (2, .int (gRem a1 4)), (0, .ref (ε.2.2.1 18 0)), (1, .int a1)]) d_Law_seen_19 rfl (by decide) rfl ?_
    refine g_iconst (v := 0) d_Law_seen_20 (by decide) ?_
    refine g_istore (L' := [(4, .int 0), (3, .int 1), (2, .int (gRem a1 4)), (0, .ref (ε.2.2.1 18 0)), (1, .int a1)]) d_Law_seen_21 (by decide) rfl ?_
    obtain ⟨q22, hq22, h⟩ := gOb h
    refine gGo_sub [3, 2, 1, 0] rfl ?_
    refine t_Law_seen_l23 hl0 hX gTk_ok hR (gRem a1 4) 5 (1, 0, q1.2) q22 (ka + 1) hq22 (by omega) ?_
    refine g_useK hR (kb := (ka + 151)) (by omega) (gLe hk (Nat.le_of_ble_eq_true rfl)) ?_
    refine g_iload_n d_Law_seen_194 rfl 2 rfl ?_
    obtain ⟨z23, hz23, h⟩ := gOb h
    obtain rfl := Option.some.inj h
    exact g_zretK hR d_Law_seen_195 rfl hz23 (gLe hk (Nat.le_of_ble_eq_true rfl))
  · rw [if_neg c25] at h
    refine g_iconst (v := 1) d_Law_seen_12 (by decide) ?_
    obtain ⟨z24, hz24, h⟩ := gOb h
    obtain rfl := Option.some.inj h
    exact g_zretK hR d_Law_seen_13 rfl hz24 (gLe hk (Nat.le_of_ble_eq_true rfl))
theorem ctk_Law_seen {l : Launch} {ε : gEnv} (hl0 : l.stackTraces = false) (hX : gXw ε) (M : gMem) (a1 : Int32) (r : Int32 × gMem) (h : f_Law_seen M a1 = some r) : gCtK l ε k_Law_seen 155 6121 151 [.ref (ε.2.2.1 18 0), .int a1] M (some (.int r.1)) r.2 :=
  gCtK_of hl0 (by decide) (Nat.le_of_ble_eq_true rfl) rfl (t_Law_seen hl0 hX (gRm_K _ _ _) (Nat.le_of_eq (Nat.zero_add _)) M a1 r h)
theorem ctkq_Law_seen {l : Launch} {ε : gEnv} (hl0 : l.stackTraces = false) (hY : gXw (swE ε)) (M : gMem) (a1 : Int32) (q : Int32 × gMem) (h : onQ (fun M => f_Law_seen M a1) M = some q) : gCtK l ε k_Law_seen 155 6121 151 [.ref (ε.2.2.1 38 0), .int a1] M (some (.int q.1)) q.2 :=
  gCtK_sw (ctk_Law_seen hl0 hY (swM M) a1 (q.1, swM q.2) (onQ_s h))
