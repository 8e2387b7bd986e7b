theorem d_Law_best_0 : decode method_30_code 0 = .ok (.aload_n 0, 1) := by decide +kernel
theorem d_Law_best_1 : decode method_30_code 1 = .ok (.iconst 2, 1) := by decide +kernel
theorem d_Law_best_2 : decode method_30_code 2 = .ok (.iconst 1, 1) := by decide +kernel
theorem d_Law_best_3 : decode method_30_code 3 = .ok (.iconst 0, 1) := by decide +kernel
theorem d_Law_best_4 : decode method_30_code 4 = .ok (.iconst 0, 1) := by decide +kernel
theorem d_Law_best_5 : decode method_30_code 5 = .ok (.invokestatic 132, 3) := by decide +kernel
theorem d_Law_best_8 : decode method_30_code 8 = .ok (.iconst 2, 1) := by decide +kernel
theorem d_Law_best_9 : decode method_30_code 9 = .ok (.if_icmp .eq 5, 3) := by decide +kernel
theorem d_Law_best_12 : decode method_30_code 12 = .ok (.iconst 1, 1) := by decide +kernel
theorem d_Law_best_13 : decode method_30_code 13 = .ok (.ireturn, 1) := by decide +kernel
theorem d_Law_best_14 : decode method_30_code 14 = .ok (.aload_n 0, 1) := by decide +kernel
theorem d_Law_best_15 : decode method_30_code 15 = .ok (.invokestatic 186, 3) := by decide +kernel
theorem d_Law_best_18 : decode method_30_code 18 = .ok (.istore_n 3, 1) := by decide +kernel
theorem d_Law_best_19 : decode method_30_code 19 = .ok (.iload_n 3, 1) := by decide +kernel
theorem d_Law_best_20 : decode method_30_code 20 = .ok (.iconst 3, 1) := by decide +kernel
theorem d_Law_best_21 : decode method_30_code 21 = .ok (.if_icmp .le 39, 3) := by decide +kernel
theorem d_Law_best_24 : decode method_30_code 24 = .ok (.aload_n 0, 1) := by decide +kernel
theorem d_Law_best_25 : decode method_30_code 25 = .ok (.bipush 11, 2) := by decide +kernel
theorem d_Law_best_27 : decode method_30_code 27 = .ok (.iload_n 2, 1) := by decide +kernel
theorem d_Law_best_28 : decode method_30_code 28 = .ok (.iconst 2, 1) := by decide +kernel
theorem d_Law_best_29 : decode method_30_code 29 = .ok (.irem, 1) := by decide +kernel
theorem d_Law_best_30 : decode method_30_code 30 = .ok (.iconst 0, 1) := by decide +kernel
theorem d_Law_best_31 : decode method_30_code 31 = .ok (.iconst 0, 1) := by decide +kernel
theorem d_Law_best_32 : decode method_30_code 32 = .ok (.invokestatic 132, 3) := by decide +kernel
theorem d_Law_best_35 : decode method_30_code 35 = .ok (.ldc 21, 2) := by decide +kernel
theorem d_Law_best_37 : decode method_30_code 37 = .ok (.if_icmp .ne 21, 3) := by decide +kernel
theorem d_Law_best_40 : decode method_30_code 40 = .ok (.aload_n 0, 1) := by decide +kernel
theorem d_Law_best_41 : decode method_30_code 41 = .ok (.bipush 12, 2) := by decide +kernel
theorem d_Law_best_43 : decode method_30_code 43 = .ok (.iconst 0, 1) := by decide +kernel
theorem d_Law_best_44 : decode method_30_code 44 = .ok (.iconst 0, 1) := by decide +kernel
theorem d_Law_best_45 : decode method_30_code 45 = .ok (.iconst 0, 1) := by decide +kernel
theorem d_Law_best_46 : decode method_30_code 46 = .ok (.invokestatic 132, 3) := by decide +kernel
theorem d_Law_best_49 : decode method_30_code 49 = .ok (.ldc 21, 2) := by decide +kernel
theorem d_Law_best_51 : decode method_30_code 51 = .ok (.if_icmp .ne 7, 3) := by decide +kernel
theorem d_Law_best_54 : decode method_30_code 54 = .ok (.iconst 1, 1) := by decide +kernel
theorem d_Law_best_55 : decode method_30_code 55 = .ok (.goto 4, 3) := by decide +kernel
theorem d_Law_best_58 : decode method_30_code 58 = .ok (.iconst 0, 1) := by decide +kernel
theorem d_Law_best_59 : decode method_30_code 59 = .ok (.ireturn, 1) := by decide +kernel
theorem d_Law_best_60 : decode method_30_code 60 = .ok (.aload_n 0, 1) := by decide +kernel
theorem d_Law_best_61 : decode method_30_code 61 = .ok (.iconst 2, 1) := by decide +kernel
theorem d_Law_best_62 : decode method_30_code 62 = .ok (.iconst 2, 1) := by decide +kernel
theorem d_Law_best_63 : decode method_30_code 63 = .ok (.iconst 0, 1) := by decide +kernel
theorem d_Law_best_64 : decode method_30_code 64 = .ok (.iconst 0, 1) := by decide +kernel
theorem d_Law_best_65 : decode method_30_code 65 = .ok (.invokestatic 132, 3) := by decide +kernel
theorem d_Law_best_68 : decode method_30_code 68 = .ok (.iconst 2, 1) := by decide +kernel
theorem d_Law_best_69 : decode method_30_code 69 = .ok (.irem, 1) := by decide +kernel
theorem d_Law_best_70 : decode method_30_code 70 = .ok (.istore 4, 2) := by decide +kernel
theorem d_Law_best_72 : decode method_30_code 72 = .ok (.aload_n 0, 1) := by decide +kernel
theorem d_Law_best_73 : decode method_30_code 73 = .ok (.iconst 2, 1) := by decide +kernel
theorem d_Law_best_74 : decode method_30_code 74 = .ok (.iconst 5, 1) := by decide +kernel
theorem d_Law_best_75 : decode method_30_code 75 = .ok (.iload 4, 2) := by decide +kernel
theorem d_Law_best_77 : decode method_30_code 77 = .ok (.iadd, 1) := by decide +kernel
theorem d_Law_best_78 : decode method_30_code 78 = .ok (.iconst 0, 1) := by decide +kernel
theorem d_Law_best_79 : decode method_30_code 79 = .ok (.iconst 0, 1) := by decide +kernel
theorem d_Law_best_80 : decode method_30_code 80 = .ok (.invokestatic 132, 3) := by decide +kernel
theorem d_Law_best_83 : decode method_30_code 83 = .ok (.istore 5, 2) := by decide +kernel
theorem d_Law_best_85 : decode method_30_code 85 = .ok (.aload_n 0, 1) := by decide +kernel
theorem d_Law_best_86 : decode method_30_code 86 = .ok (.iconst 2, 1) := by decide +kernel
theorem d_Law_best_87 : decode method_30_code 87 = .ok (.iconst 5, 1) := by decide +kernel
theorem d_Law_best_88 : decode method_30_code 88 = .ok (.iconst 0, 1) := by decide +kernel
theorem d_Law_best_89 : decode method_30_code 89 = .ok (.iconst 0, 1) := by decide +kernel
theorem d_Law_best_90 : decode method_30_code 90 = .ok (.invokestatic 132, 3) := by decide +kernel
theorem d_Law_best_93 : decode method_30_code 93 = .ok (.aload_n 0, 1) := by decide +kernel
theorem d_Law_best_94 : decode method_30_code 94 = .ok (.iconst 2, 1) := by decide +kernel
theorem d_Law_best_95 : decode method_30_code 95 = .ok (.bipush 6, 2) := by decide +kernel
theorem d_Law_best_97 : decode method_30_code 97 = .ok (.iconst 0, 1) := by decide +kernel
theorem d_Law_best_98 : decode method_30_code 98 = .ok (.iconst 0, 1) := by decide +kernel
theorem d_Law_best_99 : decode method_30_code 99 = .ok (.invokestatic 132, 3) := by decide +kernel
theorem d_Law_best_102 : decode method_30_code 102 = .ok (.iadd, 1) := by decide +kernel
theorem d_Law_best_103 : decode method_30_code 103 = .ok (.istore 6, 2) := by decide +kernel
theorem d_Law_best_105 : decode method_30_code 105 = .ok (.aload_n 0, 1) := by decide +kernel
theorem d_Law_best_106 : decode method_30_code 106 = .ok (.bipush 11, 2) := by decide +kernel
theorem d_Law_best_108 : decode method_30_code 108 = .ok (.iconst 0, 1) := by decide +kernel
theorem d_Law_best_109 : decode method_30_code 109 = .ok (.iconst 0, 1) := by decide +kernel
theorem d_Law_best_110 : decode method_30_code 110 = .ok (.iconst 0, 1) := by decide +kernel
theorem d_Law_best_111 : decode method_30_code 111 = .ok (.invokestatic 132, 3) := by decide +kernel
theorem d_Law_best_114 : decode method_30_code 114 = .ok (.istore 7, 2) := by decide +kernel
theorem d_Law_best_116 : decode method_30_code 116 = .ok (.iload 7, 2) := by decide +kernel
theorem d_Law_best_118 : decode method_30_code 118 = .ok (.aload_n 0, 1) := by decide +kernel
theorem d_Law_best_119 : decode method_30_code 119 = .ok (.bipush 11, 2) := by decide +kernel
theorem d_Law_best_121 : decode method_30_code 121 = .ok (.iconst 1, 1) := by decide +kernel
theorem d_Law_best_122 : decode method_30_code 122 = .ok (.iconst 0, 1) := by decide +kernel
theorem d_Law_best_123 : decode method_30_code 123 = .ok (.iconst 0, 1) := by decide +kernel
theorem d_Law_best_124 : decode method_30_code 124 = .ok (.invokestatic 132, 3) := by decide +kernel
theorem d_Law_best_127 : decode method_30_code 127 = .ok (.if_icmp .ne 22, 3) := by decide +kernel
theorem d_Law_best_130 : decode method_30_code 130 = .ok (.iload 7, 2) := by decide +kernel
theorem d_Law_best_132 : decode method_30_code 132 = .ok (.ifCond .lt 17, 3) := by decide +kernel
theorem d_Law_best_135 : decode method_30_code 135 = .ok (.iload 7, 2) := by decide +kernel
theorem d_Law_best_137 : decode method_30_code 137 = .ok (.bipush 8, 2) := by decide +kernel
theorem d_Law_best_139 : decode method_30_code 139 = .ok (.iload 6, 2) := by decide +kernel
theorem d_Law_best_141 : decode method_30_code 141 = .ok (.isub, 1) := by decide +kernel
theorem d_Law_best_142 : decode method_30_code 142 = .ok (.if_icmp .gt 7, 3) := by decide +kernel
theorem d_Law_best_145 : decode method_30_code 145 = .ok (.iconst 1, 1) := by decide +kernel
theorem d_Law_best_146 : decode method_30_code 146 = .ok (.goto 4, 3) := by decide +kernel
theorem d_Law_best_149 : decode method_30_code 149 = .ok (.iconst 0, 1) := by decide +kernel
theorem d_Law_best_150 : decode method_30_code 150 = .ok (.istore 8, 2) := by decide +kernel
theorem d_Law_best_152 : decode method_30_code 152 = .ok (.iconst 0, 1) := by decide +kernel
theorem d_Law_best_153 : decode method_30_code 153 = .ok (.istore 9, 2) := by decide +kernel
theorem d_Law_best_155 : decode method_30_code 155 = .ok (.iload 8, 2) := by decide +kernel
theorem d_Law_best_157 : decode method_30_code 157 = .ok (.ifCond .eq 159, 3) := by decide +kernel
theorem d_Law_best_160 : decode method_30_code 160 = .ok (.aload_n 0, 1) := by decide +kernel
theorem d_Law_best_161 : decode method_30_code 161 = .ok (.iconst 2, 1) := by decide +kernel
theorem d_Law_best_162 : decode method_30_code 162 = .ok (.iconst 1, 1) := by decide +kernel
theorem d_Law_best_163 : decode method_30_code 163 = .ok (.iconst 0, 1) := by decide +kernel
theorem d_Law_best_164 : decode method_30_code 164 = .ok (.iconst 0, 1) := by decide +kernel
theorem d_Law_best_165 : decode method_30_code 165 = .ok (.invokestatic 132, 3) := by decide +kernel
theorem d_Law_best_168 : decode method_30_code 168 = .ok (.iconst 2, 1) := by decide +kernel
theorem d_Law_best_169 : decode method_30_code 169 = .ok (.if_icmp .ne 147, 3) := by decide +kernel
theorem d_Law_best_172 : decode method_30_code 172 = .ok (.iload 9, 2) := by decide +kernel
theorem d_Law_best_174 : decode method_30_code 174 = .ok (.bipush 12, 2) := by decide +kernel
theorem d_Law_best_176 : decode method_30_code 176 = .ok (.if_icmp .ge 140, 3) := by decide +kernel
theorem d_Law_best_179 : decode method_30_code 179 = .ok (.aload_n 0, 1) := by decide +kernel
theorem d_Law_best_180 : decode method_30_code 180 = .ok (.iconst 2, 1) := by decide +kernel
theorem d_Law_best_181 : decode method_30_code 181 = .ok (.iconst 2, 1) := by decide +kernel
theorem d_Law_best_182 : decode method_30_code 182 = .ok (.iconst 0, 1) := by decide +kernel
theorem d_Law_best_183 : decode method_30_code 183 = .ok (.iconst 0, 1) := by decide +kernel
theorem d_Law_best_184 : decode method_30_code 184 = .ok (.invokestatic 132, 3) := by decide +kernel
theorem d_Law_best_187 : decode method_30_code 187 = .ok (.istore 10, 2) := by decide +kernel
theorem d_Law_best_189 : decode method_30_code 189 = .ok (.aload_n 0, 1) := by decide +kernel
theorem d_Law_best_190 : decode method_30_code 190 = .ok (.bipush 11, 2) := by decide +kernel
theorem d_Law_best_192 : decode method_30_code 192 = .ok (.iconst 0, 1) := by decide +kernel
theorem d_Law_best_193 : decode method_30_code 193 = .ok (.iconst 0, 1) := by decide +kernel
theorem d_Law_best_194 : decode method_30_code 194 = .ok (.iconst 0, 1) := by decide +kernel
theorem d_Law_best_195 : decode method_30_code 195 = .ok (.invokestatic 132, 3) := by decide +kernel
theorem d_Law_best_198 : decode method_30_code 198 = .ok (.istore 11, 2) := by decide +kernel
theorem d_Law_best_200 : decode method_30_code 200 = .ok (.aload_n 0, 1) := by decide +kernel
theorem d_Law_best_201 : decode method_30_code 201 = .ok (.iconst 2, 1) := by decide +kernel
theorem d_Law_best_202 : decode method_30_code 202 = .ok (.iconst 5, 1) := by decide +kernel
theorem d_Law_best_203 : decode method_30_code 203 = .ok (.iload 4, 2) := by decide +kernel
theorem d_Law_best_205 : decode method_30_code 205 = .ok (.iadd, 1) := by decide +kernel
theorem d_Law_best_206 : decode method_30_code 206 = .ok (.iconst 0, 1) := by decide +kernel
theorem d_Law_best_207 : decode method_30_code 207 = .ok (.iconst 0, 1) := by decide +kernel
theorem d_Law_best_208 : decode method_30_code 208 = .ok (.invokestatic 132, 3) := by decide +kernel
theorem d_Law_best_211 : decode method_30_code 211 = .ok (.iload 5, 2) := by decide +kernel
theorem d_Law_best_213 : decode method_30_code 213 = .ok (.isub, 1) := by decide +kernel
theorem d_Law_best_214 : decode method_30_code 214 = .ok (.istore 12, 2) := by decide +kernel
theorem d_Law_best_216 : decode method_30_code 216 = .ok (.bipush 8, 2) := by decide +kernel
theorem d_Law_best_218 : decode method_30_code 218 = .ok (.aload_n 0, 1) := by decide +kernel
theorem d_Law_best_219 : decode method_30_code 219 = .ok (.iconst 2, 1) := by decide +kernel
theorem d_Law_best_220 : decode method_30_code 220 = .ok (.iconst 5, 1) := by decide +kernel
theorem d_Law_best_221 : decode method_30_code 221 = .ok (.iconst 0, 1) := by decide +kernel
theorem d_Law_best_222 : decode method_30_code 222 = .ok (.iconst 0, 1) := by decide +kernel
theorem d_Law_best_223 : decode method_30_code 223 = .ok (.invokestatic 132, 3) := by decide +kernel
theorem d_Law_best_226 : decode method_30_code 226 = .ok (.isub, 1) := by decide +kernel
theorem d_Law_best_227 : decode method_30_code 227 = .ok (.aload_n 0, 1) := by decide +kernel
theorem d_Law_best_228 : decode method_30_code 228 = .ok (.iconst 2, 1) := by decide +kernel
theorem d_Law_best_229 : decode method_30_code 229 = .ok (.bipush 6, 2) := by decide +kernel
theorem d_Law_best_231 : decode method_30_code 231 = .ok (.iconst 0, 1) := by decide +kernel
theorem d_Law_best_232 : decode method_30_code 232 = .ok (.iconst 0, 1) := by decide +kernel
theorem d_Law_best_233 : decode method_30_code 233 = .ok (.invokestatic 132, 3) := by decide +kernel
theorem d_Law_best_236 : decode method_30_code 236 = .ok (.isub, 1) := by decide +kernel
theorem d_Law_best_237 : decode method_30_code 237 = .ok (.istore 13, 2) := by decide +kernel
theorem d_Law_best_239 : decode method_30_code 239 = .ok (.aload_n 0, 1) := by decide +kernel
theorem d_Law_best_240 : decode method_30_code 240 = .ok (.bipush 12, 2) := by decide +kernel
theorem d_Law_best_242 : decode method_30_code 242 = .ok (.iconst 0, 1) := by decide +kernel
theorem d_Law_best_243 : decode method_30_code 243 = .ok (.iconst 0, 1) := by decide +kernel
theorem d_Law_best_244 : decode method_30_code 244 = .ok (.iconst 0, 1) := by decide +kernel
theorem d_Law_best_245 : decode method_30_code 245 = .ok (.invokestatic 132, 3) := by decide +kernel
theorem d_Law_best_248 : decode method_30_code 248 = .ok (.istore 14, 2) := by decide +kernel
theorem d_Law_best_250 : decode method_30_code 250 = .ok (.iload 12, 2) := by decide +kernel
theorem d_Law_best_252 : decode method_30_code 252 = .ok (.iload 10, 2) := by decide +kernel
theorem d_Law_best_254 : decode method_30_code 254 = .ok (.iconst 2, 1) := by decide +kernel
theorem d_Law_best_255 : decode method_30_code 255 = .ok (.irem, 1) := by decide +kernel
theorem d_Law_best_256 : decode method_30_code 256 = .ok (.iload 4, 2) := by decide +kernel
theorem d_Law_best_258 : decode method_30_code 258 = .ok (.if_icmp .ne 8, 3) := by decide +kernel
theorem d_Law_best_261 : decode method_30_code 261 = .ok (.iload 11, 2) := by decide +kernel
theorem d_Law_best_263 : decode method_30_code 263 = .ok (.goto 8, 3) := by decide +kernel
theorem d_Law_best_266 : decode method_30_code 266 = .ok (.iload 13, 2) := by decide +kernel
theorem d_Law_best_268 : decode method_30_code 268 = .ok (.iload 11, 2) := by decide +kernel
theorem d_Law_best_270 : decode method_30_code 270 = .ok (.isub, 1) := by decide +kernel
theorem d_Law_best_271 : decode method_30_code 271 = .ok (.iadd, 1) := by decide +kernel
theorem d_Law_best_272 : decode method_30_code 272 = .ok (.iload 7, 2) := by decide +kernel
theorem d_Law_best_274 : decode method_30_code 274 = .ok (.if_icmp .ne 33, 3) := by decide +kernel
theorem d_Law_best_277 : decode method_30_code 277 = .ok (.aload_n 0, 1) := by decide +kernel
theorem d_Law_best_278 : decode method_30_code 278 = .ok (.bipush 8, 2) := by decide +kernel
theorem d_Law_best_280 : decode method_30_code 280 = .ok (.iload 14, 2) := by decide +kernel
theorem d_Law_best_282 : decode method_30_code 282 = .ok (.iconst 0, 1) := by decide +kernel
theorem d_Law_best_283 : decode method_30_code 283 = .ok (.iconst 0, 1) := by decide +kernel
theorem d_Law_best_284 : decode method_30_code 284 = .ok (.invokestatic 132, 3) := by decide +kernel
theorem d_Law_best_287 : decode method_30_code 287 = .ok (.ifCond .ne 20, 3) := by decide +kernel
theorem d_Law_best_290 : decode method_30_code 290 = .ok (.aload_n 1, 1) := by decide +kernel
theorem d_Law_best_291 : decode method_30_code 291 = .ok (.bipush 8, 2) := by decide +kernel
theorem d_Law_best_293 : decode method_30_code 293 = .ok (.iload 14, 2) := by decide +kernel
theorem d_Law_best_295 : decode method_30_code 295 = .ok (.iconst 0, 1) := by decide +kernel
theorem d_Law_best_296 : decode method_30_code 296 = .ok (.iconst 0, 1) := by decide +kernel
theorem d_Law_best_297 : decode method_30_code 297 = .ok (.invokestatic 132, 3) := by decide +kernel
theorem d_Law_best_300 : decode method_30_code 300 = .ok (.ifCond .ne 7, 3) := by decide +kernel
theorem d_Law_best_303 : decode method_30_code 303 = .ok (.iconst 1, 1) := by decide +kernel
theorem d_Law_best_304 : decode method_30_code 304 = .ok (.goto 4, 3) := by decide +kernel
theorem d_Law_best_307 : decode method_30_code 307 = .ok (.iconst 0, 1) := by decide +kernel
theorem d_Law_best_308 : decode method_30_code 308 = .ok (.istore 8, 2) := by decide +kernel
theorem d_Law_best_310 : decode method_30_code 310 = .ok (.iinc 9 1, 3) := by decide +kernel
theorem d_Law_best_313 : decode method_30_code 313 = .ok (.goto (-158), 3) := by decide +kernel
theorem d_Law_best_316 : decode method_30_code 316 = .ok (.iload 8, 2) := by decide +kernel
theorem d_Law_best_318 : decode method_30_code 318 = .ok (.ifCond .eq 26, 3) := by decide +kernel
theorem d_Law_best_321 : decode method_30_code 321 = .ok (.aload_n 0, 1) := by decide +kernel
theorem d_Law_best_322 : decode method_30_code 322 = .ok (.iconst 2, 1) := by decide +kernel
theorem d_Law_best_323 : decode method_30_code 323 = .ok (.iconst 5, 1) := by decide +kernel
theorem d_Law_best_324 : decode method_30_code 324 = .ok (.iload 4, 2) := by decide +kernel
theorem d_Law_best_326 : decode method_30_code 326 = .ok (.iadd, 1) := by decide +kernel
theorem d_Law_best_327 : decode method_30_code 327 = .ok (.iconst 0, 1) := by decide +kernel
theorem d_Law_best_328 : decode method_30_code 328 = .ok (.iconst 0, 1) := by decide +kernel
theorem d_Law_best_329 : decode method_30_code 329 = .ok (.invokestatic 132, 3) := by decide +kernel
theorem d_Law_best_332 : decode method_30_code 332 = .ok (.iload 5, 2) := by decide +kernel
theorem d_Law_best_334 : decode method_30_code 334 = .ok (.iload 7, 2) := by decide +kernel
theorem d_Law_best_336 : decode method_30_code 336 = .ok (.iadd, 1) := by decide +kernel
theorem d_Law_best_337 : decode method_30_code 337 = .ok (.if_icmp .ne 7, 3) := by decide +kernel
theorem d_Law_best_340 : decode method_30_code 340 = .ok (.iconst 1, 1) := by decide +kernel
theorem d_Law_best_341 : decode method_30_code 341 = .ok (.goto 4, 3) := by decide +kernel
theorem d_Law_best_344 : decode method_30_code 344 = .ok (.iconst 0, 1) := by decide +kernel
theorem d_Law_best_345 : decode method_30_code 345 = .ok (.istore 8, 2) := by decide +kernel
theorem d_Law_best_347 : decode method_30_code 347 = .ok (.iconst 0, 1) := by decide +kernel
theorem d_Law_best_348 : decode method_30_code 348 = .ok (.istore 10, 2) := by decide +kernel
theorem d_Law_best_350 : decode method_30_code 350 = .ok (.iload 10, 2) := by decide +kernel
theorem d_Law_best_352 : decode method_30_code 352 = .ok (.iload 9, 2) := by decide +kernel
theorem d_Law_best_354 : decode method_30_code 354 = .ok (.if_icmp .ge 51, 3) := by decide +kernel
theorem d_Law_best_357 : decode method_30_code 357 = .ok (.iload 8, 2) := by decide +kernel
theorem d_Law_best_359 : decode method_30_code 359 = .ok (.ifCond .eq 46, 3) := by decide +kernel
theorem d_Law_best_362 : decode method_30_code 362 = .ok (.aload_n 0, 1) := by decide +kernel
theorem d_Law_best_363 : decode method_30_code 363 = .ok (.bipush 9, 2) := by decide +kernel
theorem d_Law_best_365 : decode method_30_code 365 = .ok (.iconst 0, 1) := by decide +kernel
theorem d_Law_best_366 : decode method_30_code 366 = .ok (.iconst 0, 1) := by decide +kernel
theorem d_Law_best_367 : decode method_30_code 367 = .ok (.iconst 0, 1) := by decide +kernel
theorem d_Law_best_368 : decode method_30_code 368 = .ok (.invokestatic 132, 3) := by decide +kernel
theorem d_Law_best_371 : decode method_30_code 371 = .ok (.invokestatic 189, 3) := by decide +kernel
theorem d_Law_best_374 : decode method_30_code 374 = .ok (.ifCond .ne 22, 3) := by decide +kernel
theorem d_Law_best_377 : decode method_30_code 377 = .ok (.aload_n 1, 1) := by decide +kernel
theorem d_Law_best_378 : decode method_30_code 378 = .ok (.bipush 9, 2) := by decide +kernel
theorem d_Law_best_380 : decode method_30_code 380 = .ok (.iconst 0, 1) := by decide +kernel
theorem d_Law_best_381 : decode method_30_code 381 = .ok (.iconst 0, 1) := by decide +kernel
theorem d_Law_best_382 : decode method_30_code 382 = .ok (.iconst 0, 1) := by decide +kernel
theorem d_Law_best_383 : decode method_30_code 383 = .ok (.invokestatic 132, 3) := by decide +kernel
theorem d_Law_best_386 : decode method_30_code 386 = .ok (.invokestatic 189, 3) := by decide +kernel
theorem d_Law_best_389 : decode method_30_code 389 = .ok (.ifCond .ne 7, 3) := by decide +kernel
theorem d_Law_best_392 : decode method_30_code 392 = .ok (.iconst 1, 1) := by decide +kernel
theorem d_Law_best_393 : decode method_30_code 393 = .ok (.goto 4, 3) := by decide +kernel
theorem d_Law_best_396 : decode method_30_code 396 = .ok (.iconst 0, 1) := by decide +kernel
theorem d_Law_best_397 : decode method_30_code 397 = .ok (.istore 8, 2) := by decide +kernel
theorem d_Law_best_399 : decode method_30_code 399 = .ok (.iinc 10 1, 3) := by decide +kernel
theorem d_Law_best_402 : decode method_30_code 402 = .ok (.goto (-52), 3) := by decide +kernel
theorem d_Law_best_405 : decode method_30_code 405 = .ok (.iconst 0, 1) := by decide +kernel
theorem d_Law_best_406 : decode method_30_code 406 = .ok (.istore 10, 2) := by decide +kernel
theorem d_Law_best_408 : decode method_30_code 408 = .ok (.iload 10, 2) := by decide +kernel
theorem d_Law_best_410 : decode method_30_code 410 = .ok (.bipush 8, 2) := by decide +kernel
theorem d_Law_best_412 : decode method_30_code 412 = .ok (.if_icmp .ge 23, 3) := by decide +kernel
theorem d_Law_best_415 : decode method_30_code 415 = .ok (.aload_n 0, 1) := by decide +kernel
theorem d_Law_best_416 : decode method_30_code 416 = .ok (.bipush 10, 2) := by decide +kernel
theorem d_Law_best_418 : decode method_30_code 418 = .ok (.iload 10, 2) := by decide +kernel
theorem d_Law_best_420 : decode method_30_code 420 = .ok (.iconst 0, 1) := by decide +kernel
theorem d_Law_best_421 : decode method_30_code 421 = .ok (.iconst 0, 1) := by decide +kernel
theorem d_Law_best_422 : decode method_30_code 422 = .ok (.invokestatic 132, 3) := by decide +kernel
theorem d_Law_best_425 : decode method_30_code 425 = .ok (.iconst (-1), 1) := by decide +kernel
theorem d_Law_best_426 : decode method_30_code 426 = .ok (.if_icmp .eq 9, 3) := by decide +kernel
theorem d_Law_best_429 : decode method_30_code 429 = .ok (.iinc 10 1, 3) := by decide +kernel
theorem d_Law_best_432 : decode method_30_code 432 = .ok (.goto (-24), 3) := by decide +kernel
theorem d_Law_best_435 : decode method_30_code 435 = .ok (.aload_n 0, 1) := by decide +kernel
theorem d_Law_best_436 : decode method_30_code 436 = .ok (.bipush 10, 2) := by decide +kernel
theorem d_Law_best_438 : decode method_30_code 438 = .ok (.iload_n 2, 1) := by decide +kernel
theorem d_Law_best_439 : decode method_30_code 439 = .ok (.iload 10, 2) := by decide +kernel
theorem d_Law_best_441 : decode method_30_code 441 = .ok (.ifCond .le 8, 3) := by decide +kernel
theorem d_Law_best_444 : decode method_30_code 444 = .ok (.iload 10, 2) := by decide +kernel
theorem d_Law_best_446 : decode method_30_code 446 = .ok (.goto 4, 3) := by decide +kernel
theorem d_Law_best_449 : decode method_30_code 449 = .ok (.iconst 1, 1) := by decide +kernel
theorem d_Law_best_450 : decode method_30_code 450 = .ok (.irem, 1) := by decide +kernel
theorem d_Law_best_451 : decode method_30_code 451 = .ok (.iconst 0, 1) := by decide +kernel
theorem d_Law_best_452 : decode method_30_code 452 = .ok (.iconst 0, 1) := by decide +kernel
theorem d_Law_best_453 : decode method_30_code 453 = .ok (.invokestatic 132, 3) := by decide +kernel
theorem d_Law_best_456 : decode method_30_code 456 = .ok (.istore 11, 2) := by decide +kernel
theorem d_Law_best_458 : decode method_30_code 458 = .ok (.aload_n 0, 1) := by decide +kernel
theorem d_Law_best_459 : decode method_30_code 459 = .ok (.bipush 12, 2) := by decide +kernel
theorem d_Law_best_461 : decode method_30_code 461 = .ok (.iconst 0, 1) := by decide +kernel
theorem d_Law_best_462 : decode method_30_code 462 = .ok (.iconst 0, 1) := by decide +kernel
theorem d_Law_best_463 : decode method_30_code 463 = .ok (.iconst 0, 1) := by decide +kernel
theorem d_Law_best_464 : decode method_30_code 464 = .ok (.invokestatic 132, 3) := by decide +kernel
theorem d_Law_best_467 : decode method_30_code 467 = .ok (.istore 12, 2) := by decide +kernel
theorem d_Law_best_469 : decode method_30_code 469 = .ok (.iload 8, 2) := by decide +kernel
theorem d_Law_best_471 : decode method_30_code 471 = .ok (.ifCond .eq 33, 3) := by decide +kernel
theorem d_Law_best_474 : decode method_30_code 474 = .ok (.aload_n 0, 1) := by decide +kernel
theorem d_Law_best_475 : decode method_30_code 475 = .ok (.bipush 8, 2) := by decide +kernel
theorem d_Law_best_477 : decode method_30_code 477 = .ok (.iload 11, 2) := by decide +kernel
theorem d_Law_best_479 : decode method_30_code 479 = .ok (.iconst 0, 1) := by decide +kernel
theorem d_Law_best_480 : decode method_30_code 480 = .ok (.iconst 0, 1) := by decide +kernel
theorem d_Law_best_481 : decode method_30_code 481 = .ok (.invokestatic 132, 3) := by decide +kernel
theorem d_Law_best_484 : decode method_30_code 484 = .ok (.ifCond .ne 20, 3) := by decide +kernel
theorem d_Law_best_487 : decode method_30_code 487 = .ok (.aload_n 1, 1) := by decide +kernel
theorem d_Law_best_488 : decode method_30_code 488 = .ok (.bipush 8, 2) := by decide +kernel
theorem d_Law_best_490 : decode method_30_code 490 = .ok (.iload 11, 2) := by decide +kernel
theorem d_Law_best_492 : decode method_30_code 492 = .ok (.iconst 0, 1) := by decide +kernel
theorem d_Law_best_493 : decode method_30_code 493 = .ok (.iconst 0, 1) := by decide +kernel
theorem d_Law_best_494 : decode method_30_code 494 = .ok (.invokestatic 132, 3) := by decide +kernel
theorem d_Law_best_497 : decode method_30_code 497 = .ok (.ifCond .ne 7, 3) := by decide +kernel
theorem d_Law_best_500 : decode method_30_code 500 = .ok (.iconst 1, 1) := by decide +kernel
theorem d_Law_best_501 : decode method_30_code 501 = .ok (.goto 4, 3) := by decide +kernel
theorem d_Law_best_504 : decode method_30_code 504 = .ok (.iconst 0, 1) := by decide +kernel
theorem d_Law_best_505 : decode method_30_code 505 = .ok (.istore 8, 2) := by decide +kernel
theorem d_Law_best_507 : decode method_30_code 507 = .ok (.aload_n 0, 1) := by decide +kernel
theorem d_Law_best_508 : decode method_30_code 508 = .ok (.iconst 2, 1) := by decide +kernel
theorem d_Law_best_509 : decode method_30_code 509 = .ok (.iconst 5, 1) := by decide +kernel
theorem d_Law_best_510 : decode method_30_code 510 = .ok (.iload 4, 2) := by decide +kernel
theorem d_Law_best_512 : decode method_30_code 512 = .ok (.iadd, 1) := by decide +kernel
theorem d_Law_best_513 : decode method_30_code 513 = .ok (.iconst 0, 1) := by decide +kernel
theorem d_Law_best_514 : decode method_30_code 514 = .ok (.iconst 0, 1) := by decide +kernel
theorem d_Law_best_515 : decode method_30_code 515 = .ok (.invokestatic 132, 3) := by decide +kernel
theorem d_Law_best_518 : decode method_30_code 518 = .ok (.iload 5, 2) := by decide +kernel
theorem d_Law_best_520 : decode method_30_code 520 = .ok (.isub, 1) := by decide +kernel
theorem d_Law_best_521 : decode method_30_code 521 = .ok (.istore 13, 2) := by decide +kernel
theorem d_Law_best_523 : decode method_30_code 523 = .ok (.bipush 8, 2) := by decide +kernel
theorem d_Law_best_525 : decode method_30_code 525 = .ok (.aload_n 0, 1) := by decide +kernel
theorem d_Law_best_526 : decode method_30_code 526 = .ok (.iconst 2, 1) := by decide +kernel
theorem d_Law_best_527 : decode method_30_code 527 = .ok (.iconst 5, 1) := by decide +kernel
theorem d_Law_best_528 : decode method_30_code 528 = .ok (.iconst 0, 1) := by decide +kernel
theorem d_Law_best_529 : decode method_30_code 529 = .ok (.iconst 0, 1) := by decide +kernel
theorem d_Law_best_530 : decode method_30_code 530 = .ok (.invokestatic 132, 3) := by decide +kernel
theorem d_Law_best_533 : decode method_30_code 533 = .ok (.isub, 1) := by decide +kernel
theorem d_Law_best_534 : decode method_30_code 534 = .ok (.aload_n 0, 1) := by decide +kernel
theorem d_Law_best_535 : decode method_30_code 535 = .ok (.iconst 2, 1) := by decide +kernel
theorem d_Law_best_536 : decode method_30_code 536 = .ok (.bipush 6, 2) := by decide +kernel
theorem d_Law_best_538 : decode method_30_code 538 = .ok (.iconst 0, 1) := by decide +kernel
theorem d_Law_best_539 : decode method_30_code 539 = .ok (.iconst 0, 1) := by decide +kernel
theorem d_Law_best_540 : decode method_30_code 540 = .ok (.invokestatic 132, 3) := by decide +kernel
theorem d_Law_best_543 : decode method_30_code 543 = .ok (.isub, 1) := by decide +kernel
theorem d_Law_best_544 : decode method_30_code 544 = .ok (.istore 14, 2) := by decide +kernel
theorem d_Law_best_546 : decode method_30_code 546 = .ok (.aload_n 0, 1) := by decide +kernel
theorem d_Law_best_547 : decode method_30_code 547 = .ok (.iconst 2, 1) := by decide +kernel
theorem d_Law_best_548 : decode method_30_code 548 = .ok (.iconst 1, 1) := by decide +kernel
theorem d_Law_best_549 : decode method_30_code 549 = .ok (.iconst 0, 1) := by decide +kernel
theorem d_Law_best_550 : decode method_30_code 550 = .ok (.iconst 0, 1) := by decide +kernel
theorem d_Law_best_551 : decode method_30_code 551 = .ok (.invokestatic 132, 3) := by decide +kernel
theorem d_Law_best_554 : decode method_30_code 554 = .ok (.iconst 3, 1) := by decide +kernel
theorem d_Law_best_555 : decode method_30_code 555 = .ok (.if_icmp .ne 8, 3) := by decide +kernel
theorem d_Law_best_558 : decode method_30_code 558 = .ok (.iload 13, 2) := by decide +kernel
theorem d_Law_best_560 : decode method_30_code 560 = .ok (.goto 48, 3) := by decide +kernel
theorem d_Law_best_563 : decode method_30_code 563 = .ok (.aload_n 0, 1) := by decide +kernel
theorem d_Law_best_564 : decode method_30_code 564 = .ok (.iconst 2, 1) := by decide +kernel
theorem d_Law_best_565 : decode method_30_code 565 = .ok (.iconst 2, 1) := by decide +kernel
theorem d_Law_best_566 : decode method_30_code 566 = .ok (.iconst 0, 1) := by decide +kernel
theorem d_Law_best_567 : decode method_30_code 567 = .ok (.iconst 0, 1) := by decide +kernel
theorem d_Law_best_568 : decode method_30_code 568 = .ok (.invokestatic 132, 3) := by decide +kernel
theorem d_Law_best_571 : decode method_30_code 571 = .ok (.iconst 2, 1) := by decide +kernel
theorem d_Law_best_572 : decode method_30_code 572 = .ok (.irem, 1) := by decide +kernel
theorem d_Law_best_573 : decode method_30_code 573 = .ok (.iload 4, 2) := by decide +kernel
theorem d_Law_best_575 : decode method_30_code 575 = .ok (.if_icmp .ne 18, 3) := by decide +kernel
theorem d_Law_best_578 : decode method_30_code 578 = .ok (.iload 13, 2) := by decide +kernel
theorem d_Law_best_580 : decode method_30_code 580 = .ok (.aload_n 0, 1) := by decide +kernel
theorem d_Law_best_581 : decode method_30_code 581 = .ok (.bipush 11, 2) := by decide +kernel
theorem d_Law_best_583 : decode method_30_code 583 = .ok (.iconst 0, 1) := by decide +kernel
theorem d_Law_best_584 : decode method_30_code 584 = .ok (.iconst 0, 1) := by decide +kernel
theorem d_Law_best_585 : decode method_30_code 585 = .ok (.iconst 0, 1) := by decide +kernel
theorem d_Law_best_586 : decode method_30_code 586 = .ok (.invokestatic 132, 3) := by decide +kernel
theorem d_Law_best_589 : decode method_30_code 589 = .ok (.iadd, 1) := by decide +kernel
theorem d_Law_best_590 : decode method_30_code 590 = .ok (.goto 18, 3) := by decide +kernel
theorem d_Law_best_593 : decode method_30_code 593 = .ok (.iload 13, 2) := by decide +kernel
theorem d_Law_best_595 : decode method_30_code 595 = .ok (.iload 14, 2) := by decide +kernel
theorem d_Law_best_597 : decode method_30_code 597 = .ok (.iadd, 1) := by decide +kernel
theorem d_Law_best_598 : decode method_30_code 598 = .ok (.aload_n 0, 1) := by decide +kernel
theorem d_Law_best_599 : decode method_30_code 599 = .ok (.bipush 11, 2) := by decide +kernel
theorem d_Law_best_601 : decode method_30_code 601 = .ok (.iconst 0, 1) := by decide +kernel
theorem d_Law_best_602 : decode method_30_code 602 = .ok (.iconst 0, 1) := by decide +kernel
theorem d_Law_best_603 : decode method_30_code 603 = .ok (.iconst 0, 1) := by decide +kernel
theorem d_Law_best_604 : decode method_30_code 604 = .ok (.invokestatic 132, 3) := by decide +kernel
theorem d_Law_best_607 : decode method_30_code 607 = .ok (.isub, 1) := by decide +kernel
theorem d_Law_best_608 : decode method_30_code 608 = .ok (.istore 15, 2) := by decide +kernel
theorem d_Law_best_610 : decode method_30_code 610 = .ok (.iload 8, 2) := by decide +kernel
theorem d_Law_best_612 : decode method_30_code 612 = .ok (.ifCond .eq 88, 3) := by decide +kernel
theorem d_Law_best_615 : decode method_30_code 615 = .ok (.iload 15, 2) := by decide +kernel
theorem d_Law_best_617 : decode method_30_code 617 = .ok (.iload 7, 2) := by decide +kernel
theorem d_Law_best_619 : decode method_30_code 619 = .ok (.if_icmp .lt 17, 3) := by decide +kernel
theorem d_Law_best_622 : decode method_30_code 622 = .ok (.iload 15, 2) := by decide +kernel
theorem d_Law_best_624 : decode method_30_code 624 = .ok (.iload 7, 2) := by decide +kernel
theorem d_Law_best_626 : decode method_30_code 626 = .ok (.if_icmp .ne 74, 3) := by decide +kernel
theorem d_Law_best_629 : decode method_30_code 629 = .ok (.iload 11, 2) := by decide +kernel
theorem d_Law_best_631 : decode method_30_code 631 = .ok (.iload 12, 2) := by decide +kernel
theorem d_Law_best_633 : decode method_30_code 633 = .ok (.if_icmp .lt 67, 3) := by decide +kernel
theorem d_Law_best_636 : decode method_30_code 636 = .ok (.aload_n 0, 1) := by decide +kernel
theorem d_Law_best_637 : decode method_30_code 637 = .ok (.bipush 9, 2) := by decide +kernel
theorem d_Law_best_639 : decode method_30_code 639 = .ok (.iconst 0, 1) := by decide +kernel
theorem d_Law_best_640 : decode method_30_code 640 = .ok (.iconst 0, 1) := by decide +kernel
theorem d_Law_best_641 : decode method_30_code 641 = .ok (.iconst 0, 1) := by decide +kernel
theorem d_Law_best_642 : decode method_30_code 642 = .ok (.invokestatic 132, 3) := by decide +kernel
theorem d_Law_best_645 : decode method_30_code 645 = .ok (.invokestatic 189, 3) := by decide +kernel
theorem d_Law_best_648 : decode method_30_code 648 = .ok (.ifCond .ne 52, 3) := by decide +kernel
theorem d_Law_best_651 : decode method_30_code 651 = .ok (.aload_n 1, 1) := by decide +kernel
theorem d_Law_best_652 : decode method_30_code 652 = .ok (.bipush 9, 2) := by decide +kernel
theorem d_Law_best_654 : decode method_30_code 654 = .ok (.iconst 0, 1) := by decide +kernel
theorem d_Law_best_655 : decode method_30_code 655 = .ok (.iconst 0, 1) := by decide +kernel
theorem d_Law_best_656 : decode method_30_code 656 = .ok (.iconst 0, 1) := by decide +kernel
theorem d_Law_best_657 : decode method_30_code 657 = .ok (.invokestatic 132, 3) := by decide +kernel
theorem d_Law_best_660 : decode method_30_code 660 = .ok (.invokestatic 189, 3) := by decide +kernel
theorem d_Law_best_663 : decode method_30_code 663 = .ok (.ifCond .ne 37, 3) := by decide +kernel
theorem d_Law_best_666 : decode method_30_code 666 = .ok (.aload_n 0, 1) := by decide +kernel
theorem d_Law_best_667 : decode method_30_code 667 = .ok (.iconst 2, 1) := by decide +kernel
theorem d_Law_best_668 : decode method_30_code 668 = .ok (.iconst 5, 1) := by decide +kernel
theorem d_Law_best_669 : decode method_30_code 669 = .ok (.iload 4, 2) := by decide +kernel
theorem d_Law_best_671 : decode method_30_code 671 = .ok (.iadd, 1) := by decide +kernel
theorem d_Law_best_672 : decode method_30_code 672 = .ok (.iconst 0, 1) := by decide +kernel
theorem d_Law_best_673 : decode method_30_code 673 = .ok (.iconst 0, 1) := by decide +kernel
theorem d_Law_best_674 : decode method_30_code 674 = .ok (.invokestatic 132, 3) := by decide +kernel
theorem d_Law_best_677 : decode method_30_code 677 = .ok (.iload 5, 2) := by decide +kernel
theorem d_Law_best_679 : decode method_30_code 679 = .ok (.if_icmp .ne 21, 3) := by decide +kernel
theorem d_Law_best_682 : decode method_30_code 682 = .ok (.aload_n 0, 1) := by decide +kernel
theorem d_Law_best_683 : decode method_30_code 683 = .ok (.bipush 11, 2) := by decide +kernel
theorem d_Law_best_685 : decode method_30_code 685 = .ok (.iconst 0, 1) := by decide +kernel
theorem d_Law_best_686 : decode method_30_code 686 = .ok (.iconst 0, 1) := by decide +kernel
theorem d_Law_best_687 : decode method_30_code 687 = .ok (.iconst 0, 1) := by decide +kernel
theorem d_Law_best_688 : decode method_30_code 688 = .ok (.invokestatic 132, 3) := by decide +kernel
theorem d_Law_best_691 : decode method_30_code 691 = .ok (.iload 7, 2) := by decide +kernel
theorem d_Law_best_693 : decode method_30_code 693 = .ok (.if_icmp .ne 7, 3) := by decide +kernel
theorem d_Law_best_696 : decode method_30_code 696 = .ok (.iconst 1, 1) := by decide +kernel
theorem d_Law_best_697 : decode method_30_code 697 = .ok (.goto 4, 3) := by decide +kernel
theorem d_Law_best_700 : decode method_30_code 700 = .ok (.iconst 0, 1) := by decide +kernel
theorem d_Law_best_701 : decode method_30_code 701 = .ok (.ireturn, 1) := by decide +kernel
theorem w_965 : Cond.methodLink "DropSignalsLaw" 186 ⟨"DropSignalsLaw", "few", "(LDropSignals;)I"⟩ ∈ gWs := gWs_in (i := 965) (by decide +kernel) rfl
theorem w_968 : Cond.methodLink "DropSignalsLaw" 189 ⟨"DropSignalsLaw", "thrown", "(I)Z"⟩ ∈ gWs := gWs_in (i := 968) (by decide +kernel) rfl
abbrev k_Law_best : gMD := (⟨"DropSignalsLaw", "best", "(LDropSignals;LDropSignals;I)Z"⟩, method_30_code, 16, (some .boolean))
theorem w_963 : Cond.static ⟨"DropSignalsLaw", "best", "(LDropSignals;LDropSignals;I)Z"⟩ ∈ gWs := gWs_in (i := 963) (by decide +kernel) rfl
set_option maxRecDepth 100000 in
theorem ca_Law_best : gCaS k_Law_best 3 := ⟨⟨gWs_in (i := 964) rfl rfl, w_19, by decide, by decide, by decide +kernel⟩, w_963⟩
noncomputable def f_Law_best_b308_155 (M : gMem) (x2 : Int32) (x4 : Int32) (x5 : Int32) (x7 : Int32) (x9 : Int32) (s0 : Int32) : Option ((Int32 × Int32 × gMem) ⊕ (Int32 × Int32 × gMem)) :=
  some (.inl (s0, (x9 + 1), M))
theorem t_Law_best_b308_155 {l : Launch} {ε : gEnv} (hl0 : l.stackTraces = false) (hX : gXw ε) (hY : gXw (swE ε)) {R : Room} {T : gTT} {Z : gZZ} {k0 n0 K ka kb : Nat} (hT : gTok T) (hR : gRm R k0 n0 K 156 6144) (hk : ka + 0 ≤ kb) (hb : kb ≤ K) (M : gMem) (x2 : Int32) (x4 : Int32) (x5 : Int32) (x7 : Int32) (x9 : Int32) (s0 : Int32) (res : ((Int32 × Int32 × gMem) ⊕ (Int32 × Int32 × gMem))) (h : f_Law_best_b308_155 M x2 x4 x5 x7 x9 s0 = some res) (k1 : ∀ s0 : (Int32 × Int32 × gMem), res = .inl s0 → gGo l ε k_Law_best R (gFg T Z k0 n0 kb) 155 [(0, .ref (ε.2.2.1 18 0)), (1, .ref (ε.2.2.1 38 0)), (2, .int x2), (4, .int x4), (5, .int x5), (7, .int x7), (8, .int s0.1), (9, .int s0.2.1)] [] s0.2.2) (k2 : ∀ s0 : (Int32 × Int32 × gMem), res = .inr s0 → gGo l ε k_Law_best R (gFg T Z k0 n0 kb) 316 [(0, .ref (ε.2.2.1 18 0)), (1, .ref (ε.2.2.1 38 0)), (2, .int x2), (4, .int x4), (5, .int x5), (7, .int x7), (8, .int s0.1), (9, .int s0.2.1)] [] s0.2.2) : gGo l ε k_Law_best R (gFg T Z k0 n0 ka) 308 [(0, .ref (ε.2.2.1 18 0)), (1, .ref (ε.2.2.1 38 0)), (2, .int x2), (4, .int x4), (5, .int x5), (7, .int x7), (9, .int x9)] [.int s0] M := by
  unfold f_Law_best_b308_155 at h
  refine g_istore (L' := [(8, .int s0), (0, .ref (ε.2.2.1 18 0)), (1, .ref (ε.2.2.1 38 0)), (2, .int x2), (4, .int x4), (5, .int x5), (7, .int x7), (9, .int x9)]) d_Law_best_308 (by decide) rfl ?_
  refine g_iinc (v := (x9 + 1)) (L' := [(9, .int (x9 + 1)), (8, .int s0), (0, .ref (ε.2.2.1 18 0)), (1, .ref (ε.2.2.1 38 0)), (2, .int x2), (4, .int x4), (5, .int x5), (7, .int x7)]) d_Law_best_310 (j := 7) rfl rfl (by decide) rfl ?_
  refine g_goto (tgt := 155) d_Law_best_313 (by decide) ?_
  refine gGo_sub [2, 3, 4, 5, 6, 7, 1, 0] rfl ?_
  obtain rfl := Option.some.inj h
  exact g_useK hR (gLe0 hk) hb (k1 (s0, (x9 + 1), M) rfl)
noncomputable def f_Law_best_b307_155 (M : gMem) (x2 : Int32) (x4 : Int32) (x5 : Int32) (x7 : Int32) (x9 : Int32) : Option ((Int32 × Int32 × gMem) ⊕ (Int32 × Int32 × gMem)) :=
  f_Law_best_b308_155 M x2 x4 x5 x7 x9 0
theorem t_Law_best_b307_155 {l : Launch} {ε : gEnv} (hl0 : l.stackTraces = false) (hX : gXw ε) (hY : gXw (swE ε)) {R : Room} {T : gTT} {Z : gZZ} {k0 n0 K ka kb : Nat} (hT : gTok T) (hR : gRm R k0 n0 K 156 6144) (hk : ka + 0 ≤ kb) (hb : kb ≤ K) (M : gMem) (x2 : Int32) (x4 : Int32) (x5 : Int32) (x7 : Int32) (x9 : Int32) (res : ((Int32 × Int32 × gMem) ⊕ (Int32 × Int32 × gMem))) (h : f_Law_best_b307_155 M x2 x4 x5 x7 x9 = some res) (k1 : ∀ s0 : (Int32 × Int32 × gMem), res = .inl s0 → gGo l ε k_Law_best R (gFg T Z k0 n0 kb) 155 [(0, .ref (ε.2.2.1 18 0)), (1, .ref (ε.2.2.1 38 0)), (2, .int x2), (4, .int x4), (5, .int x5), (7, .int x7), (8, .int s0.1), (9, .int s0.2.1)] [] s0.2.2) (k2 : ∀ s0 : (Int32 × Int32 × gMem), res = .inr s0 → gGo l ε k_Law_best R (gFg T Z k0 n0 kb) 316 [(0, .ref (ε.2.2.1 18 0)), (1, .ref (ε.2.2.1 38 0)), (2, .int x2), (4, .int x4), (5, .int x5), (7, .int x7), (8, .int s0.1), (9, .int s0.2.1)] [] s0.2.2) : gGo l ε k_Law_best R (gFg T Z k0 n0 ka) 307 [(0, .ref (ε.2.2.1 18 0)), (1, .ref (ε.2.2.1 38 0)), (2, .int x2), (4, .int x4), (5, .int x5), (7, .int x7), (9, .int x9)] [] M := by
  unfold f_Law_best_b307_155 at h
  refine g_iconst (v := 0) d_Law_best_307 (by decide) ?_
  exact t_Law_best_b308_155 hl0 hX hY hT hR (gLe hk (Nat.le_of_ble_eq_true rfl)) hb M x2 x4 x5 x7 x9 0 _ h k1 k2
noncomputable def f_Law_best_b271_155 (M : gMem) (x2 : Int32) (x4 : Int32) (x5 : Int32) (x7 : Int32) (x9 : Int32) (x14 : Int32) (s0 : Int32) (s1 : Int32) : Option ((Int32 × Int32 × gMem) ⊕ (Int32 × Int32 × gMem)) :=
  if (s1 + s0) = x7 then
    (f_Law_call M 8 x14 0 0).bind fun q16 =>
    if q16.1 = 0 then
      (onQ (fun M => f_Law_call M 8 x14 0 0) q16.2).bind fun q17 =>
      if q17.1 = 0 then
        f_Law_best_b308_155 q17.2 x2 x4 x5 x7 x9 1
      else
        f_Law_best_b307_155 q17.2 x2 x4 x5 x7 x9
    else
      f_Law_best_b307_155 q16.2 x2 x4 x5 x7 x9
  else
    f_Law_best_b307_155 M x2 x4 x5 x7 x9
theorem t_Law_best_b271_155 {l : Launch} {ε : gEnv} (hl0 : l.stackTraces = false) (hX : gXw ε) (hY : gXw (swE ε)) {R : Room} {T : gTT} {Z : gZZ} {k0 n0 K ka kb : Nat} (hT : gTok T) (hR : gRm R k0 n0 K 156 6144) (hk : ka + 2 ≤ kb) (hb : kb ≤ K) (M : gMem) (x2 : Int32) (x4 : Int32) (x5 : Int32) (x7 : Int32) (x9 : Int32) (x14 : Int32) (s0 : Int32) (s1 : Int32) (res : ((Int32 × Int32 × gMem) ⊕ (Int32 × Int32 × gMem))) (h : f_Law_best_b271_155 M x2 x4 x5 x7 x9 x14 s0 s1 = some res) (k1 : ∀ s0 : (Int32 × Int32 × gMem), res = .inl s0 → gGo l ε k_Law_best R (gFg T Z k0 n0 kb) 155 [(0, .ref (ε.2.2.1 18 0)), (1, .ref (ε.2.2.1 38 0)), (2, .int x2), (4, .int x4), (5, .int x5), (7, .int x7), (8, .int s0.1), (9, .int s0.2.1)] [] s0.2.2) (k2 : ∀ s0 : (Int32 × Int32 × gMem), res = .inr s0 → gGo l ε k_Law_best R (gFg T Z k0 n0 kb) 316 [(0, .ref (ε.2.2.1 18 0)), (1, .ref (ε.2.2.1 38 0)), (2, .int x2), (4, .int x4), (5, .int x5), (7, .int x7), (8, .int s0.1), (9, .int s0.2.1)] [] s0.2.2) : gGo l ε k_Law_best R (gFg T Z k0 n0 ka) 271 [(0, .ref (ε.2.2.1 18 0)), (1, .ref (ε.2.2.1 38 0)), (2, .int x2), (4, .int x4), (5, .int x5), (7, .int x7), (9, .int x9), (14, .int x14)] [.int s0, .int s1] M := by
  unfold f_Law_best_b271_155 at h
  refine g_iadd d_Law_best_271 ?_
  refine g_iload d_Law_best_272 5 rfl ?_
  refine g_icmp_ne (tgt := 307) d_Law_best_274 (by decide) (fun c20 => ?_) (fun c20 => ?_)
  · rw [if_neg c20] at h
    refine gGo_sub [0, 1, 2, 3, 4, 5, 6] rfl ?_
    exact t_Law_best_b307_155 hl0 hX hY hT hR (gLe hk (Nat.le_of_ble_eq_true rfl)) hb M x2 x4 x5 x7 x9 _ h k1 k2
  · rw [if_pos c20] at h
    refine g_aload_n d_Law_best_277 rfl 0 rfl ?_
    refine g_bipush (v := 8) d_Law_best_278 (by decide) ?_
    refine g_iload d_Law_best_280 7 rfl ?_
    refine g_iconst (v := 0) d_Law_best_282 (by decide) ?_
    refine g_iconst (v := 0) d_Law_best_283 (by decide) ?_
    obtain ⟨q16, hq16, h⟩ := gOb h
    refine g_callK (kb := (ka + 1)) (As := [.ref (ε.2.2.1 18 0), .int 8, .int x14, .int 0, .int 0]) (rest := []) hT hR (fun _ => ctk_Law_call hl0 hX M 8 x14 0 0 _ hq16) d_Law_best_284 ca_Law_call w_281 rfl rfl (Nat.le_of_ble_eq_true rfl) ⟨(Nat.le_of_ble_eq_true rfl), (Nat.le_of_ble_eq_true rfl)⟩ (Nat.le_refl _) (Nat.le_trans (gLe hk (Nat.le_of_ble_eq_true rfl)) hb) ?_
    refine g_if_ne (tgt := 307) d_Law_best_287 (by decide) (fun c19 => ?_) (fun c19 => ?_)
    · rw [if_neg c19] at h
      refine gGo_sub [0, 1, 2, 3, 4, 5, 6] rfl ?_
      exact t_Law_best_b307_155 hl0 hX hY hT hR (gLe2 hk (Nat.le_of_ble_eq_true rfl)) hb q16.2 x2 x4 x5 x7 x9 _ h k1 k2
    · rw [if_pos c19] at h
      refine g_aload_n d_Law_best_290 rfl 1 rfl ?_
      refine g_bipush (v := 8) d_Law_best_291 (by decide) ?_
      refine g_iload d_Law_best_293 7 rfl ?_
      refine g_iconst (v := 0) d_Law_best_295 (by decide) ?_
      refine g_iconst (v := 0) d_Law_best_296 (by decide) ?_
      obtain ⟨q17, hq17, h⟩ := gOb h
      refine g_callK (kb := (ka + 2)) (As := [.ref (ε.2.2.1 38 0), .int 8, .int x14, .int 0, .int 0]) (rest := []) hT hR (fun _ => ctkq_Law_call hl0 hY q16.2 8 x14 0 0 _ hq17) d_Law_best_297 ca_Law_call w_281 rfl rfl (Nat.le_of_ble_eq_true rfl) ⟨(Nat.le_of_ble_eq_true rfl), (Nat.le_of_ble_eq_true rfl)⟩ (Nat.le_refl _) (Nat.le_trans (gLe hk (Nat.le_of_ble_eq_true rfl)) hb) ?_
      refine g_if_ne (tgt := 307) d_Law_best_300 (by decide) (fun c18 => ?_) (fun c18 => ?_)
      · rw [if_neg c18] at h
        refine gGo_sub [0, 1, 2, 3, 4, 5, 6] rfl ?_
        exact t_Law_best_b307_155 hl0 hX hY hT hR (gLe2 hk (Nat.le_of_ble_eq_true rfl)) hb q17.2 x2 x4 x5 x7 x9 _ h k1 k2
      · rw [if_pos c18] at h
        refine g_iconst (v := 1) d_Law_best_303 (by decide) ?_
        refine g_goto (tgt := 308) d_Law_best_304 (by decide) ?_
        refine gGo_sub [0, 1, 2, 3, 4, 5, 6] rfl ?_
        exact t_Law_best_b308_155 hl0 hX hY hT hR (gLe2 hk (Nat.le_of_ble_eq_true rfl)) hb q17.2 x2 x4 x5 x7 x9 1 _ h k1 k2
noncomputable def f_Law_best_s155 (M : gMem) (x2 : Int32) (x4 : Int32) (x5 : Int32) (x7 : Int32) (x8 : Int32) (x9 : Int32) : Option ((Int32 × Int32 × gMem) ⊕ (Int32 × Int32 × gMem)) :=
  if x8 = 0 then
    some (.inr (x8, x9, M))
  else
    (f_Law_call M 2 1 0 0).bind fun q9 =>
    if q9.1 = 2 then
      if 12 ≤ x9 then
        some (.inr (x8, x9, q9.2))
      else
        (f_Law_call q9.2 2 2 0 0).bind fun q10 =>
        (f_Law_call q10.2 11 0 0 0).bind fun q11 =>
        (f_Law_call q11.2 2 (5 + x4) 0 0).bind fun q12 =>
        (f_Law_call q12.2 2 5 0 0).bind fun q13 =>
        (f_Law_call q13.2 2 6 0 0).bind fun q14 =>
        (f_Law_call q14.2 12 0 0 0).bind fun q15 =>
        if (gRem q10.1 2) = x4 then
          f_Law_best_b271_155 q15.2 x2 x4 x5 x7 x9 q15.1 q11.1 (q12.1 - x5)
        else
          f_Law_best_b271_155 q15.2 x2 x4 x5 x7 x9 q15.1 (((8 - q13.1) - q14.1) - q11.1) (q12.1 - x5)
    else
      some (.inr (x8, x9, q9.2))
theorem t_Law_best_s155 {l : Launch} {ε : gEnv} (hl0 : l.stackTraces = false) (hX : gXw ε) (hY : gXw (swE ε)) {R : Room} {T : gTT} {Z : gZZ} {k0 n0 K ka kb : Nat} (hT : gTok T) (hR : gRm R k0 n0 K 156 6144) (hk : ka + 9 ≤ kb) (hb : kb ≤ K) (M : gMem) (x2 : Int32) (x4 : Int32) (x5 : Int32) (x7 : Int32) (x8 : Int32) (x9 : Int32) (res : ((Int32 × Int32 × gMem) ⊕ (Int32 × Int32 × gMem))) (h : f_Law_best_s155 M x2 x4 x5 x7 x8 x9 = some res) (k1 : ∀ s0 : (Int32 × Int32 × gMem), res = .inl s0 → gGo l ε k_Law_best R (gFg T Z k0 n0 kb) 155 [(0, .ref (ε.2.2.1 18 0)), (1, .ref (ε.2.2.1 38 0)), (2, .int x2), (4, .int x4), (5, .int x5), (7, .int x7), (8, .int s0.1), (9, .int s0.2.1)] [] s0.2.2) (k2 : ∀ s0 : (Int32 × Int32 × gMem), res = .inr s0 → gGo l ε k_Law_best R (gFg T Z k0 n0 kb) 316 [(0, .ref (ε.2.2.1 18 0)), (1, .ref (ε.2.2.1 38 0)), (2, .int x2), (4, .int x4), (5, .int x5), (7, .int x7), (8, .int s0.1), (9, .int s0.2.1)] [] s0.2.2) : gGo l ε k_Law_best R (gFg T Z k0 n0 ka) 155 [(0, .ref (ε.2.2.1 18 0)), (1, .ref (ε.2.2.1 38 0)), (2, .int x2), (4, .int x4), (5, .int x5), (7, .int x7), (8, .int x8), (9, .int x9)] [] M := by
  unfold f_Law_best_s155 at h
  refine g_iload d_Law_best_155 6 rfl ?_
  refine g_if_eq (tgt := 316) d_Law_best_157 (by decide) (fun c24 => ?_) (fun c24 => ?_)
  · rw [if_pos c24] at h
    obtain rfl := Option.some.inj h
    exact g_useK hR (gLe0 hk) hb (k2 (x8, x9, M) rfl)
  · rw [if_neg c24] at h
    refine g_aload_n d_Law_best_160 rfl 0 rfl ?_
    refine g_iconst (v := 2) d_Law_best_161 (by decide) ?_
    refine g_iconst (v := 1) d_Law_best_162 (by decide) ?_
    refine g_iconst (v := 0) d_Law_best_163 (by decide) ?_
    refine g_iconst (v := 0) d_Law_best_164 (by decide) ?_
    obtain ⟨q9, hq9, h⟩ := gOb h
    refine g_callK (kb := (ka + 1)) (As := [.ref (ε.2.2.1 18 0), .int 2, .int 1, .int 0, .int 0]) (rest := []) hT hR (fun _ => ctk_Law_call hl0 hX M 2 1 0 0 _ hq9) d_Law_best_165 ca_Law_call w_281 rfl rfl (Nat.le_of_ble_eq_true rfl) ⟨(Nat.le_of_ble_eq_true rfl), (Nat.le_of_ble_eq_true rfl)⟩ (Nat.le_refl _) (Nat.le_trans (gLe hk (Nat.le_of_ble_eq_true rfl)) hb) ?_
    refine g_iconst (v := 2) d_Law_best_168 (by decide) ?_
    refine g_icmp_ne (tgt := 316) d_Law_best_169 (by decide) (fun c23 => ?_) (fun c23 => ?_)
    · rw [if_neg c23] at h
      obtain rfl := Option.some.inj h
      exact g_useK hR (gLe hk (Nat.le_of_ble_eq_true rfl)) hb (k2 (x8, x9, q9.2) rfl)
    · rw [if_pos c23] at h
      refine g_iload d_Law_best_172 7 rfl ?_
      refine g_bipush (v := 12) d_Law_best_174 (by decide) ?_
      refine g_icmp_ge (tgt := 316) d_Law_best_176 (by decide) (fun c22 => ?_) (fun c22 => ?_)
      · rw [if_pos c22] at h
        obtain rfl := Option.some.inj h
        exact g_useK hR (gLe hk (Nat.le_of_ble_eq_true rfl)) hb (k2 (x8, x9, q9.2) rfl)
      · rw [if_neg c22] at h
        refine g_aload_n d_Law_best_179 rfl 0 rfl ?_
        refine g_iconst (v := 2) d_Law_best_180 (by decide) ?_
        refine g_iconst (v := 2) d_Law_best_181 (by decide) ?_
        refine g_iconst (v := 0) d_Law_best_182 (by decide) ?_
        refine g_iconst (v := 0) d_Law_best_183 (by decide) ?_
        obtain ⟨q10, hq10, h⟩ := gOb h
        refine g_callK (kb := (ka + 2)) (As := [.ref (ε.2.2.1 18 0), .int 2, .int 2, .int 0, .int 0]) (rest := []) hT hR (fun _ => ctk_Law_call hl0 hX q9.2 2 2 0 0 _ hq10) d_Law_best_184 ca_Law_call w_281 rfl rfl (Nat.le_of_ble_eq_true rfl) ⟨(Nat.le_of_ble_eq_true rfl), (Nat.le_of_ble_eq_true rfl)⟩ (Nat.le_refl _) (Nat.le_trans (gLe hk (Nat.le_of_ble_eq_true rfl)) hb) ?_
        refine g_istore (L' := [(10, .int q10.1), (0, .ref (ε.2.2.1 18 0)), (1, .ref (ε.2.2.1 38 0)), (2, .int x2), (4, .int x4), (5, .int x5), (7, .int x7), (8, .int x8), (9, .int x9)]) d_Law_best_187 (by decide) rfl ?_
        refine g_aload_n d_Law_best_189 rfl 1 rfl ?_
        refine g_bipush (v := 11) d_Law_best_190 (by decide) ?_
        refine g_iconst (v := 0) d_Law_best_192 (by decide) ?_
        refine g_iconst (v := 0) d_Law_best_193 (by decide) ?_
        refine g_iconst (v := 0) d_Law_best_194 (by decide) ?_
        obtain ⟨q11, hq11, h⟩ := gOb h
        refine g_callK (kb := (ka + 3)) (As := [.ref (ε.2.2.1 18 0), .int 11, .int 0, .int 0, .int 0]) (rest := []) hT hR (fun _ => ctk_Law_call hl0 hX q10.2 11 0 0 0 _ hq11) d_Law_best_195 ca_Law_call w_281 rfl rfl (Nat.le_of_ble_eq_true rfl) ⟨(Nat.le_of_ble_eq_true rfl), (Nat.le_of_ble_eq_true rfl)⟩ (Nat.le_refl _) (Nat.le_trans (gLe hk (Nat.le_of_ble_eq_true rfl)) hb) ?_
        refine g_istore (L' := [(11, .int q11.1), (10, .int q10.1), (0, .ref (ε.2.2.1 18 0)), (1, .ref (ε.2.2.1 38 0)), (2, .int x2), (4, .int x4), (5, .int x5), (7, .int x7), (8, .int x8), (9, .int x9)]) d_Law_best_198 (by decide) rfl ?_
        refine g_aload_n d_Law_best_200 rfl 2 rfl ?_
        refine g_iconst (v := 2) d_Law_best_201 (by decide) ?_
        refine g_iconst (v := 5) d_Law_best_202 (by decide) ?_
        refine g_iload d_Law_best_203 5 rfl ?_
        refine g_iadd d_Law_best_205 ?_
        refine g_iconst (v := 0) d_Law_best_206 (by decide) ?_
        refine g_iconst (v := 0) d_Law_best_207 (by decide) ?_
        obtain ⟨q12, hq12, h⟩ := gOb h
        refine g_callK (kb := (ka + 4)) (As := [.ref (ε.2.2.1 18 0), .int 2, .int (5 + x4), .int 0, .int 0]) (rest := []) hT hR (fun _ => ctk_Law_call hl0 hX q11.2 2 (5 + x4) 0 0 _ hq12) d_Law_best_208 ca_Law_call w_281 rfl rfl (Nat.le_of_ble_eq_true rfl) ⟨(Nat.le_of_ble_eq_true rfl), (Nat.le_of_ble_eq_true rfl)⟩ (Nat.le_refl _) (Nat.le_trans (gLe hk (Nat.le_of_ble_eq_true rfl)) hb) ?_
        refine g_iload d_Law_best_211 6 rfl ?_
        refine g_isub d_Law_best_213 ?_
        refine g_istore (L' := [(12, .int (q12.1 - x5)), (11, .int q11.1), (10, .int q10.1), (0, .ref (ε.2.2.1 18 0)), (1, .ref (ε.2.2.1 38 0)), (2, .int x2), (4, .int x4), (5, .int x5), (7, .int x7), (8, .int x8), (9, .int x9)]) d_Law_best_214 (by decide) rfl ?_
        refine g_bipush (v := 8) d_Law_best_216 (by decide) ?_
        refine g_aload_n d_Law_best_218 rfl 3 rfl ?_
        refine g_iconst (v := 2) d_Law_best_219 (by decide) ?_
        refine g_iconst (v := 5) d_Law_best_220 (by decide) ?_
        refine g_iconst (v := 0) d_Law_best_221 (by decide) ?_
        refine g_iconst (v := 0) d_Law_best_222 (by decide) ?_
        obtain ⟨q13, hq13, h⟩ := gOb h
        refine g_callK (kb := (ka + 5)) (As := [.ref (ε.2.2.1 18 0), .int 2, .int 5, .int 0, .int 0]) (rest := [.int 8]) hT hR (fun _ => ctk_Law_call hl0 hX q12.2 2 5 0 0 _ hq13) d_Law_best_223 ca_Law_call w_281 rfl rfl (Nat.le_of_ble_eq_true rfl) ⟨(Nat.le_of_ble_eq_true rfl), (Nat.le_of_ble_eq_true rfl)⟩ (Nat.le_refl _) (Nat.le_trans (gLe hk (Nat.le_of_ble_eq_true rfl)) hb) ?_
        refine g_isub d_Law_best_226 ?_
        refine g_aload_n d_Law_best_227 rfl 3 rfl ?_
        refine g_iconst (v := 2) d_Law_best_228 (by decide) ?_
        refine g_bipush (v := 6) d_Law_best_229 (by decide) ?_
        refine g_iconst (v := 0) d_Law_best_231 (by decide) ?_
        refine g_iconst (v := 0) d_Law_best_232 (by decide) ?_
        obtain ⟨q14, hq14, h⟩ := gOb h
        refine g_callK (kb := (ka + 6)) (As := [.ref (ε.2.2.1 18 0), .int 2, .int 6, .int 0, .int 0]) (rest := [.int (8 - q13.1)]) hT hR (fun _ => ctk_Law_call hl0 hX q13.2 2 6 0 0 _ hq14) d_Law_best_233 ca_Law_call w_281 rfl rfl (Nat.le_of_ble_eq_true rfl) ⟨(Nat.le_of_ble_eq_true rfl), (Nat.le_of_ble_eq_true rfl)⟩ (Nat.le_refl _) (Nat.le_trans (gLe hk (Nat.le_of_ble_eq_true rfl)) hb) ?_
        refine g_isub d_Law_best_236 ?_
        refine g_istore (L' := [(13, .int ((8 - q13.1) - q14.1)), (12, .int (q12.1 - x5)), (11, .int q11.1), (10, .int q10.1), (0, .ref (ε.2.2.1 18 0)), (1, .ref (ε.2.2.1 38 0)), (2, .int x2), (4, .int x4), (5, .int x5), (7, .int x7), (8, .int x8), (9, .int x9)]) d_Law_best_237 (by decide) rfl ?_
        refine g_aload_n d_Law_best_239 rfl 4 rfl ?_
        refine g_bipush (v := 12) d_Law_best_240 (by decide) ?_
        refine g_iconst (v := 0) d_Law_best_242 (by decide) ?_
        refine g_iconst (v := 0) d_Law_best_243 (by decide) ?_
        refine g_iconst (v := 0) d_Law_best_244 (by decide) ?_
        obtain ⟨q15, hq15, h⟩ := gOb h
        refine g_callK (kb := (ka + 7)) (As := [.ref (ε.2.2.1 18 0), .int 12, .int 0, .int 0, .int 0]) (rest := []) hT hR (fun _ => ctk_Law_call hl0 hX q14.2 12 0 0 0 _ hq15) d_Law_best_245 ca_Law_call w_281 rfl rfl (Nat.le_of_ble_eq_true rfl) ⟨(Nat.le_of_ble_eq_true rfl), (Nat.le_of_ble_eq_true rfl)⟩ (Nat.le_refl _) (Nat.le_trans (gLe hk (Nat.le_of_ble_eq_true rfl)) hb) ?_
        refine g_istore (L' := [(14, .int q15.1), (13, .int ((8 - q13.1) - q14.1)), (12, .int (q12.1 - x5)), (11, .int q11.1), (10, .int q10.1), (0, .ref (ε.2.2.1 18 0)), (1, .ref (ε.2.2.1 38 0)), (2, .int x2), (4, .int x4), (5, .int x5), (7, .int x7), (8, .int x8), (9, .int x9)]) d_Law_best_248 (by decide) rfl ?_
        refine g_iload d_Law_best_250 2 rfl ?_
        refine g_iload d_Law_best_252 4 rfl ?_
        refine g_iconst (v := 2) d_Law_best_254 (by decide) ?_
        refine g_rem d_Law_best_255 (by decide) ?_
        refine g_iload d_Law_best_256 8 rfl ?_
        refine g_icmp_ne (tgt := 266) d_Law_best_258 (by decide) (fun c21 => ?_) (fun c21 => ?_)
        · rw [if_neg c21] at h
          refine g_iload d_Law_best_266 1 rfl ?_
          refine g_iload d_Law_best_268 3 rfl ?_
          refine g_isub d_Law_best_270 ?_
          refine gGo_sub [5, 6, 7, 8, 9, 10, 12, 0] rfl ?_
          exact t_Law_best_b271_155 hl0 hX hY hT hR (gLe2 hk (Nat.le_of_ble_eq_true rfl)) hb q15.2 x2 x4 x5 x7 x9 q15.1 (((8 - q13.1) - q14.1) - q11.1) (q12.1 - x5) _ h k1 k2
        · rw [if_pos c21] at h
          refine g_iload d_Law_best_261 3 rfl ?_
          refine g_goto (tgt := 271) d_Law_best_263 (by decide) ?_
          refine gGo_sub [5, 6, 7, 8, 9, 10, 12, 0] rfl ?_
          exact t_Law_best_b271_155 hl0 hX hY hT hR (gLe2 hk (Nat.le_of_ble_eq_true rfl)) hb q15.2 x2 x4 x5 x7 x9 q15.1 q11.1 (q12.1 - x5) _ h k1 k2
noncomputable def f_Law_best_l155 (x2 : Int32) (x4 : Int32) (x5 : Int32) (x7 : Int32) (j : Nat) (s : (Int32 × Int32 × gMem)) : Option (Int32 × Int32 × gMem) := gIt (fun s => f_Law_best_s155 s.2.2 x2 x4 x5 x7 s.1 s.2.1) j s
theorem t_Law_best_l155 {l : Launch} {ε : gEnv} (hl0 : l.stackTraces = false) (hX : gXw ε) (hY : gXw (swE ε)) {R : Room} {T : gTT} {Z : gZZ} {k0 n0 K : Nat} (hT : gTok T) (hR : gRm R k0 n0 K 156 6144) (x2 : Int32) (x4 : Int32) (x5 : Int32) (x7 : Int32) : ∀ (j : Nat) (s s' : (Int32 × Int32 × gMem)) (ka : Nat), f_Law_best_l155 x2 x4 x5 x7 j s = some s' → ka + 9 * j ≤ K → gGo l ε k_Law_best R (gFg T Z k0 n0 (ka + 9 * j)) 316 [(0, .ref (ε.2.2.1 18 0)), (1, .ref (ε.2.2.1 38 0)), (2, .int x2), (4, .int x4), (5, .int x5), (7, .int x7), (8, .int s'.1), (9, .int s'.2.1)] [] s'.2.2 → gGo l ε k_Law_best R (gFg T Z k0 n0 ka) 155 [(0, .ref (ε.2.2.1 18 0)), (1, .ref (ε.2.2.1 38 0)), (2, .int x2), (4, .int x4), (5, .int x5), (7, .int x7), (8, .int s.1), (9, .int s.2.1)] [] s.2.2 := by
  intro j
  induction j with
  | zero => intro s s' ka h; cases h
  | succ j ih =>
    intro s s' ka h hk kk
    rcases gIt_s h with ⟨s1, h1, h2⟩ | h1
    · refine t_Law_best_s155 (kb := ka + 9) hl0 hX hY hT hR (Nat.le_refl _) (by omega) s.2.2 x2 x4 x5 x7 s.1 s.2.1 (.inl s1) h1 (fun s0 e => ?_) (fun s0 e => nomatch e)
      cases e
      refine ih s1 s' (ka + 9) h2 (by omega) ?_
      rw [show ka + 9 + 9 * j = ka + 9 * (j + 1) by omega]
      exact kk
    · refine t_Law_best_s155 (kb := ka + 9) hl0 hX hY hT hR (Nat.le_refl _) (by omega) s.2.2 x2 x4 x5 x7 s.1 s.2.1 (.inr s') h1 (fun s0 e => nomatch e) (fun s0 e => ?_)
      cases e
      exact g_useK hR (by omega) hk kk
noncomputable def f_Law_best_b397_350 (M : gMem) (x2 : Int32) (x4 : Int32) (x5 : Int32) (x7 : Int32) (x9 : Int32) (x10 : Int32) (s0 : Int32) : Option ((Int32 × Int32 × gMem) ⊕ (Int32 × Int32 × gMem)) :=
  some (.inl (s0, (x10 + 1), M))
theorem t_Law_best_b397_350 {l : Launch} {ε : gEnv} (hl0 : l.stackTraces = false) (hX : gXw ε) (hY : gXw (swE ε)) {R : Room} {T : gTT} {Z : gZZ} {k0 n0 K ka kb : Nat} (hT : gTok T) (hR : gRm R k0 n0 K 156 6144) (hk : ka + 0 ≤ kb) (hb : kb ≤ K) (M : gMem) (x2 : Int32) (x4 : Int32) (x5 : Int32) (x7 : Int32) (x9 : Int32) (x10 : Int32) (s0 : Int32) (res : ((Int32 × Int32 × gMem) ⊕ (Int32 × Int32 × gMem))) (h : f_Law_best_b397_350 M x2 x4 x5 x7 x9 x10 s0 = some res) (k1 : ∀ s0 : (Int32 × Int32 × gMem), res = .inl s0 → gGo l ε k_Law_best R (gFg T Z k0 n0 kb) 350 [(0, .ref (ε.2.2.1 18 0)), (1, .ref (ε.2.2.1 38 0)), (2, .int x2), (4, .int x4), (5, .int x5), (7, .int x7), (8, .int s0.1), (9, .int x9), (10, .int s0.2.1)] [] s0.2.2) (k2 : ∀ s0 : (Int32 × Int32 × gMem), res = .inr s0 → gGo l ε k_Law_best R (gFg T Z k0 n0 kb) 405 [(0, .ref (ε.2.2.1 18 0)), (1, .ref (ε.2.2.1 38 0)), (2, .int x2), (4, .int x4), (5, .int x5), (7, .int x7), (8, .int s0.1), (9, .int x9), (10, .int s0.2.1)] [] s0.2.2) : gGo l ε k_Law_best R (gFg T Z k0 n0 ka) 397 [(0, .ref (ε.2.2.1 18 0)), (1, .ref (ε.2.2.1 38 0)), (2, .int x2), (4, .int x4), (5, .int x5), (7, .int x7), (9, .int x9), (10, .int x10)] [.int s0] M := by
  unfold f_Law_best_b397_350 at h
  refine g_istore (L' := [(8, .int s0), (0, .ref (ε.2.2.1 18 0)), (1, .ref (ε.2.2.1 38 0)), (2, .int x2), (4, .int x4), (5, .int x5), (7, .int x7), (9, .int x9), (10, .int x10)]) d_Law_best_397 (by decide) rfl ?_
  refine g_iinc (v := (x10 + 1)) (L' := [(10, .int (x10 + 1)), (8, .int s0), (0, .ref (ε.2.2.1 18 0)), (1, .ref (ε.2.2.1 38 0)), (2, .int x2), (4, .int x4), (5, .int x5), (7, .int x7), (9, .int x9)]) d_Law_best_399 (j := 8) rfl rfl (by decide) rfl ?_
  refine g_goto (tgt := 350) d_Law_best_402 (by decide) ?_
  refine gGo_sub [2, 3, 4, 5, 6, 7, 1, 8, 0] rfl ?_
  obtain rfl := Option.some.inj h
  exact g_useK hR (gLe0 hk) hb (k1 (s0, (x10 + 1), M) rfl)
noncomputable def f_Law_best_b396_350 (M : gMem) (x2 : Int32) (x4 : Int32) (x5 : Int32) (x7 : Int32) (x9 : Int32) (x10 : Int32) : Option ((Int32 × Int32 × gMem) ⊕ (Int32 × Int32 × gMem)) :=
  f_Law_best_b397_350 M x2 x4 x5 x7 x9 x10 0
theorem t_Law_best_b396_350 {l : Launch} {ε : gEnv} (hl0 : l.stackTraces = false) (hX : gXw ε) (hY : gXw (swE ε)) {R : Room} {T : gTT} {Z : gZZ} {k0 n0 K ka kb : Nat} (hT : gTok T) (hR : gRm R k0 n0 K 156 6144) (hk : ka + 0 ≤ kb) (hb : kb ≤ K) (M : gMem) (x2 : Int32) (x4 : Int32) (x5 : Int32) (x7 : Int32) (x9 : Int32) (x10 : Int32) (res : ((Int32 × Int32 × gMem) ⊕ (Int32 × Int32 × gMem))) (h : f_Law_best_b396_350 M x2 x4 x5 x7 x9 x10 = some res) (k1 : ∀ s0 : (Int32 × Int32 × gMem), res = .inl s0 → gGo l ε k_Law_best R (gFg T Z k0 n0 kb) 350 [(0, .ref (ε.2.2.1 18 0)), (1, .ref (ε.2.2.1 38 0)), (2, .int x2), (4, .int x4), (5, .int x5), (7, .int x7), (8, .int s0.1), (9, .int x9), (10, .int s0.2.1)] [] s0.2.2) (k2 : ∀ s0 : (Int32 × Int32 × gMem), res = .inr s0 → gGo l ε k_Law_best R (gFg T Z k0 n0 kb) 405 [(0, .ref (ε.2.2.1 18 0)), (1, .ref (ε.2.2.1 38 0)), (2, .int x2), (4, .int x4), (5, .int x5), (7, .int x7), (8, .int s0.1), (9, .int x9), (10, .int s0.2.1)] [] s0.2.2) : gGo l ε k_Law_best R (gFg T Z k0 n0 ka) 396 [(0, .ref (ε.2.2.1 18 0)), (1, .ref (ε.2.2.1 38 0)), (2, .int x2), (4, .int x4), (5, .int x5), (7, .int x7), (9, .int x9), (10, .int x10)] [] M := by
  unfold f_Law_best_b396_350 at h
  refine g_iconst (v := 0) d_Law_best_396 (by decide) ?_
  exact t_Law_best_b397_350 hl0 hX hY hT hR (gLe hk (Nat.le_of_ble_eq_true rfl)) hb M x2 x4 x5 x7 x9 x10 0 _ h k1 k2
noncomputable def f_Law_best_s350 (M : gMem) (x2 : Int32) (x4 : Int32) (x5 : Int32) (x7 : Int32) (x8 : Int32) (x9 : Int32) (x10 : Int32) : Option ((Int32 × Int32 × gMem) ⊕ (Int32 × Int32 × gMem)) :=
  if x9 ≤ x10 then
    some (.inr (x8, x10, M))
  else
    if x8 = 0 then
      some (.inr (x8, x10, M))
    else
      (f_Law_call M 9 0 0 0).bind fun q26 =>
      (f_Law_thrown q26.1).bind fun q27 =>
      if q27 = 0 then
        (onQ (fun M => f_Law_call M 9 0 0 0) q26.2).bind fun q28 =>
        (f_Law_thrown q28.1).bind fun q29 =>
        if q29 = 0 then
          f_Law_best_b397_350 q28.2 x2 x4 x5 x7 x9 x10 1
        else
          f_Law_best_b396_350 q28.2 x2 x4 x5 x7 x9 x10
      else
        f_Law_best_b396_350 q26.2 x2 x4 x5 x7 x9 x10
theorem t_Law_best_s350 {l : Launch} {ε : gEnv} (hl0 : l.stackTraces = false) (hX : gXw ε) (hY : gXw (swE ε)) {R : Room} {T : gTT} {Z : gZZ} {k0 n0 K ka kb : Nat} (hT : gTok T) (hR : gRm R k0 n0 K 156 6144) (hk : ka + 2 ≤ kb) (hb : kb ≤ K) (M : gMem) (x2 : Int32) (x4 : Int32) (x5 : Int32) (x7 : Int32) (x8 : Int32) (x9 : Int32) (x10 : Int32) (res : ((Int32 × Int32 × gMem) ⊕ (Int32 × Int32 × gMem))) (h : f_Law_best_s350 M x2 x4 x5 x7 x8 x9 x10 = some res) (k1 : ∀ s0 : (Int32 × Int32 × gMem), res = .inl s0 → gGo l ε k_Law_best R (gFg T Z k0 n0 kb) 350 [(0, .ref (ε.2.2.1 18 0)), (1, .ref (ε.2.2.1 38 0)), (2, .int x2), (4, .int x4), (5, .int x5), (7, .int x7), (8, .int s0.1), (9, .int x9), (10, .int s0.2.1)] [] s0.2.2) (k2 : ∀ s0 : (Int32 × Int32 × gMem), res = .inr s0 → gGo l ε k_Law_best R (gFg T Z k0 n0 kb) 405 [(0, .ref (ε.2.2.1 18 0)), (1, .ref (ε.2.2.1 38 0)), (2, .int x2), (4, .int x4), (5, .int x5), (7, .int x7), (8, .int s0.1), (9, .int x9), (10, .int s0.2.1)] [] s0.2.2) : gGo l ε k_Law_best R (gFg T Z k0 n0 ka) 350 [(0, .ref (ε.2.2.1 18 0)), (1, .ref (ε.2.2.1 38 0)), (2, .int x2), (4, .int x4), (5, .int x5), (7, .int x7), (8, .int x8), (9, .int x9), (10, .int x10)] [] M := by
  unfold f_Law_best_s350 at h
  refine g_iload d_Law_best_350 8 rfl ?_
  refine g_iload d_Law_best_352 7 rfl ?_
  refine g_icmp_ge (tgt := 405) d_Law_best_354 (by decide) (fun c33 => ?_) (fun c33 => ?_)
  · rw [if_pos c33] at h
    obtain rfl := Option.some.inj h
    exact g_useK hR (gLe0 hk) hb (k2 (x8, x10, M) rfl)
  · rw [if_neg c33] at h
    refine g_iload d_Law_best_357 6 rfl ?_
    refine g_if_eq (tgt := 405) d_Law_best_359 (by decide) (fun c32 => ?_) (fun c32 => ?_)
    · rw [if_pos c32] at h
      obtain rfl := Option.some.inj h
      exact g_useK hR (gLe0 hk) hb (k2 (x8, x10, M) rfl)
    · rw [if_neg c32] at h
      refine g_aload_n d_Law_best_362 rfl 0 rfl ?_
      refine g_bipush (v := 9) d_Law_best_363 (by decide) ?_
      refine g_iconst (v := 0) d_Law_best_365 (by decide) ?_
      refine g_iconst (v := 0) d_Law_best_366 (by decide) ?_
      refine g_iconst (v := 0) d_Law_best_367 (by decide) ?_
      obtain ⟨q26, hq26, h⟩ := gOb h
      refine g_callK (kb := (ka + 1)) (As := [.ref (ε.2.2.1 18 0), .int 9, .int 0, .int 0, .int 0]) (rest := []) hT hR (fun _ => ctk_Law_call hl0 hX M 9 0 0 0 _ hq26) d_Law_best_368 ca_Law_call w_281 rfl rfl (Nat.le_of_ble_eq_true rfl) ⟨(Nat.le_of_ble_eq_true rfl), (Nat.le_of_ble_eq_true rfl)⟩ (Nat.le_refl _) (Nat.le_trans (gLe hk (Nat.le_of_ble_eq_true rfl)) hb) ?_
      obtain ⟨q27, hq27, h⟩ := gOb h
      refine g_callS_i (As := [.int q26.1]) (rest := []) (ct_Law_thrown q26.2 q26.1 _ hq27) d_Law_best_371 ca_Law_thrown w_968 rfl rfl (Nat.le_of_ble_eq_true rfl) ⟨Nat.le_trans (Nat.le_of_ble_eq_true rfl) hR.2.2.1, Nat.le_trans (Nat.le_of_ble_eq_true rfl) hR.2.2.2⟩ ?_
      refine g_if_ne (tgt := 396) d_Law_best_374 (by decide) (fun c31 => ?_) (fun c31 => ?_)
      · rw [if_neg c31] at h
        refine gGo_sub [0, 1, 2, 3, 4, 5, 7, 8] rfl ?_
        exact t_Law_best_b396_350 hl0 hX hY hT hR (gLe2 hk (Nat.le_of_ble_eq_true rfl)) hb q26.2 x2 x4 x5 x7 x9 x10 _ h k1 k2
      · rw [if_pos c31] at h
        refine g_aload_n d_Law_best_377 rfl 1 rfl ?_
        refine g_bipush (v := 9) d_Law_best_378 (by decide) ?_
        refine g_iconst (v := 0) d_Law_best_380 (by decide) ?_
        refine g_iconst (v := 0) d_Law_best_381 (by decide) ?_
        refine g_iconst (v := 0) d_Law_best_382 (by decide) ?_
        obtain ⟨q28, hq28, h⟩ := gOb h
        refine g_callK (kb := (ka + 2)) (As := [.ref (ε.2.2.1 38 0), .int 9, .int 0, .int 0, .int 0]) (rest := []) hT hR (fun _ => ctkq_Law_call hl0 hY q26.2 9 0 0 0 _ hq28) d_Law_best_383 ca_Law_call w_281 rfl rfl (Nat.le_of_ble_eq_true rfl) ⟨(Nat.le_of_ble_eq_true rfl), (Nat.le_of_ble_eq_true rfl)⟩ (Nat.le_refl _) (Nat.le_trans (gLe hk (Nat.le_of_ble_eq_true rfl)) hb) ?_
        obtain ⟨q29, hq29, h⟩ := gOb h
        refine g_callS_i (As := [.int q28.1]) (rest := []) (ct_Law_thrown q28.2 q28.1 _ hq29) d_Law_best_386 ca_Law_thrown w_968 rfl rfl (Nat.le_of_ble_eq_true rfl) ⟨Nat.le_trans (Nat.le_of_ble_eq_true rfl) hR.2.2.1, Nat.le_trans (Nat.le_of_ble_eq_true rfl) hR.2.2.2⟩ ?_
        refine g_if_ne (tgt := 396) d_Law_best_389 (by decide) (fun c30 => ?_) (fun c30 => ?_)
        · rw [if_neg c30] at h
          refine gGo_sub [0, 1, 2, 3, 4, 5, 7, 8] rfl ?_
          exact t_Law_best_b396_350 hl0 hX hY hT hR (gLe2 hk (Nat.le_of_ble_eq_true rfl)) hb q28.2 x2 x4 x5 x7 x9 x10 _ h k1 k2
        · rw [if_pos c30] at h
          refine g_iconst (v := 1) d_Law_best_392 (by decide) ?_
          refine g_goto (tgt := 397) d_Law_best_393 (by decide) ?_
          refine gGo_sub [0, 1, 2, 3, 4, 5, 7, 8] rfl ?_
          exact t_Law_best_b397_350 hl0 hX hY hT hR (gLe2 hk (Nat.le_of_ble_eq_true rfl)) hb q28.2 x2 x4 x5 x7 x9 x10 1 _ h k1 k2
noncomputable def f_Law_best_l350 (x2 : Int32) (x4 : Int32) (x5 : Int32) (x7 : Int32) (x9 : Int32) (j : Nat) (s : (Int32 × Int32 × gMem)) : Option (Int32 × Int32 × gMem) := gIt (fun s => f_Law_best_s350 s.2.2 x2 x4 x5 x7 s.1 x9 s.2.1) j s
theorem t_Law_best_l350 {l : Launch} {ε : gEnv} (hl0 : l.stackTraces = false) (hX : gXw ε) (hY : gXw (swE ε)) {R : Room} {T : gTT} {Z : gZZ} {k0 n0 K : Nat} (hT : gTok T) (hR : gRm R k0 n0 K 156 6144) (x2 : Int32) (x4 : Int32) (x5 : Int32) (x7 : Int32) (x9 : Int32) : ∀ (j : Nat) (s s' : (Int32 × Int32 × gMem)) (ka : Nat), f_Law_best_l350 x2 x4 x5 x7 x9 j s = some s' → ka + 2 * j ≤ K → gGo l ε k_Law_best R (gFg T Z k0 n0 (ka + 2 * j)) 405 [(0, .ref (ε.2.2.1 18 0)), (1, .ref (ε.2.2.1 38 0)), (2, .int x2), (4, .int x4), (5, .int x5), (7, .int x7), (8, .int s'.1), (9, .int x9), (10, .int s'.2.1)] [] s'.2.2 → gGo l ε k_Law_best R (gFg T Z k0 n0 ka) 350 [(0, .ref (ε.2.2.1 18 0)), (1, .ref (ε.2.2.1 38 0)), (2, .int x2), (4, .int x4), (5, .int x5), (7, .int x7), (8, .int s.1), (9, .int x9), (10, .int s.2.1)] [] s.2.2 := by
  intro j
  induction j with
  | zero => intro s s' ka h; cases h
  | succ j ih =>
    intro s s' ka h hk kk
    rcases gIt_s h with ⟨s1, h1, h2⟩ | h1
    · refine t_Law_best_s350 (kb := ka + 2) hl0 hX hY hT hR (Nat.le_refl _) (by omega) s.2.2 x2 x4 x5 x7 s.1 x9 s.2.1 (.inl s1) h1 (fun s0 e => ?_) (fun s0 e => nomatch e)
      cases e
      refine ih s1 s' (ka + 2) h2 (by omega) ?_
      rw [show ka + 2 + 2 * j = ka + 2 * (j + 1) by omega]
      exact kk
    · refine t_Law_best_s350 (kb := ka + 2) hl0 hX hY hT hR (Nat.le_refl _) (by omega) s.2.2 x2 x4 x5 x7 s.1 x9 s.2.1 (.inr s') h1 (fun s0 e => nomatch e) (fun s0 e => ?_)
      cases e
      exact g_useK hR (by omega) hk kk
noncomputable def f_Law_best_s408 (M : gMem) (x2 : Int32) (x4 : Int32) (x5 : Int32) (x7 : Int32) (x8 : Int32) (x10 : Int32) : Option ((Int32 × gMem) ⊕ (Int32 × gMem)) :=
  if 8 ≤ x10 then
    some (.inr (x10, M))
  else
    (f_Law_call M 10 x10 0 0).bind fun q35 =>
    if q35.1 = (-1) then
      some (.inr (x10, q35.2))
    else
      some (.inl ((x10 + 1), q35.2))
theorem t_Law_best_s408 {l : Launch} {ε : gEnv} (hl0 : l.stackTraces = false) (hX : gXw ε) (hY : gXw (swE ε)) {R : Room} {T : gTT} {Z : gZZ} {k0 n0 K ka kb : Nat} (hT : gTok T) (hR : gRm R k0 n0 K 156 6144) (hk : ka + 1 ≤ kb) (hb : kb ≤ K) (M : gMem) (x2 : Int32) (x4 : Int32) (x5 : Int32) (x7 : Int32) (x8 : Int32) (x10 : Int32) (res : ((Int32 × gMem) ⊕ (Int32 × gMem))) (h : f_Law_best_s408 M x2 x4 x5 x7 x8 x10 = some res) (k1 : ∀ s0 : (Int32 × gMem), res = .inl s0 → gGo l ε k_Law_best R (gFg T Z k0 n0 kb) 408 [(0, .ref (ε.2.2.1 18 0)), (1, .ref (ε.2.2.1 38 0)), (2, .int x2), (4, .int x4), (5, .int x5), (7, .int x7), (8, .int x8), (10, .int s0.1)] [] s0.2) (k2 : ∀ s0 : (Int32 × gMem), res = .inr s0 → gGo l ε k_Law_best R (gFg T Z k0 n0 kb) 435 [(0, .ref (ε.2.2.1 18 0)), (1, .ref (ε.2.2.1 38 0)), (2, .int x2), (4, .int x4), (5, .int x5), (7, .int x7), (8, .int x8), (10, .int s0.1)] [] s0.2) : gGo l ε k_Law_best R (gFg T Z k0 n0 ka) 408 [(0, .ref (ε.2.2.1 18 0)), (1, .ref (ε.2.2.1 38 0)), (2, .int x2), (4, .int x4), (5, .int x5), (7, .int x7), (8, .int x8), (10, .int x10)] [] M := by
  unfold f_Law_best_s408 at h
  refine g_iload d_Law_best_408 7 rfl ?_
  refine g_bipush (v := 8) d_Law_best_410 (by decide) ?_
  refine g_icmp_ge (tgt := 435) d_Law_best_412 (by decide) (fun c37 => ?_) (fun c37 => ?_)
  · rw [if_pos c37] at h
    obtain rfl := Option.some.inj h
    exact g_useK hR (gLe0 hk) hb (k2 (x10, M) rfl)
  · rw [if_neg c37] at h
    refine g_aload_n d_Law_best_415 rfl 0 rfl ?_
    refine g_bipush (v := 10) d_Law_best_416 (by decide) ?_
    refine g_iload d_Law_best_418 7 rfl ?_
    refine g_iconst (v := 0) d_Law_best_420 (by decide) ?_
    refine g_iconst (v := 0) d_Law_best_421 (by decide) ?_
    obtain ⟨q35, hq35, h⟩ := gOb h
    refine g_callK (kb := (ka + 1)) (As := [.ref (ε.2.2.1 18 0), .int 10, .int x10, .int 0, .int 0]) (rest := []) hT hR (fun _ => ctk_Law_call hl0 hX M 10 x10 0 0 _ hq35) d_Law_best_422 ca_Law_call w_281 rfl rfl (Nat.le_of_ble_eq_true rfl) ⟨(Nat.le_of_ble_eq_true rfl), (Nat.le_of_ble_eq_true rfl)⟩ (Nat.le_refl _) (Nat.le_trans (gLe hk (Nat.le_of_ble_eq_true rfl)) hb) ?_
    refine g_iconst (v := -1) d_Law_best_425 (by decide) ?_
    refine g_icmp_eq (tgt := 435) d_Law_best_426 (by decide) (fun c36 => ?_) (fun c36 => ?_)
    · rw [if_pos c36] at h
      obtain rfl := Option.some.inj h
      exact g_useK hR (gLe hk (Nat.le_of_ble_eq_true rfl)) hb (k2 (x10, q35.2) rfl)
    · rw [if_neg c36] at h
      refine g_iinc (v := (x10 + 1)) (L' := [(10, .int (x10 + 1)), (0, .ref (ε.2.2.1 18 0)), (1, .ref (ε.2.2.1 38 0)), (2, .int x2), (4, .int x4), (5, .int x5), (7, .int x7), (8, .int x8)]) d_Law_best_429 (j := 7) rfl rfl (by decide) rfl ?_
      refine g_goto (tgt := 408) d_Law_best_432 (by decide) ?_
      refine gGo_sub [1, 2, 3, 4, 5, 6, 7, 0] rfl ?_
      obtain rfl := Option.some.inj h
      exact g_useK hR (gLe hk (Nat.le_of_ble_eq_true rfl)) hb (k1 ((x10 + 1), q35.2) rfl)
noncomputable def f_Law_best_l408 (x2 : Int32) (x4 : Int32) (x5 : Int32) (x7 : Int32) (x8 : Int32) (j : Nat) (s : (Int32 × gMem)) : Option (Int32 × gMem) := gIt (fun s => f_Law_best_s408 s.2 x2 x4 x5 x7 x8 s.1) j s
theorem t_Law_best_l408 {l : Launch} {ε : gEnv} (hl0 : l.stackTraces = false) (hX : gXw ε) (hY : gXw (swE ε)) {R : Room} {T : gTT} {Z : gZZ} {k0 n0 K : Nat} (hT : gTok T) (hR : gRm R k0 n0 K 156 6144) (x2 : Int32) (x4 : Int32) (x5 : Int32) (x7 : Int32) (x8 : Int32) : ∀ (j : Nat) (s s' : (Int32 × gMem)) (ka : Nat), f_Law_best_l408 x2 x4 x5 x7 x8 j s = some s' → ka + 1 * j ≤ K → gGo l ε k_Law_best R (gFg T Z k0 n0 (ka + 1 * j)) 435 [(0, .ref (ε.2.2.1 18 0)), (1, .ref (ε.2.2.1 38 0)), (2, .int x2), (4, .int x4), (5, .int x5), (7, .int x7), (8, .int x8), (10, .int s'.1)] [] s'.2 → gGo l ε k_Law_best R (gFg T Z k0 n0 ka) 408 [(0, .ref (ε.2.2.1 18 0)), (1, .ref (ε.2.2.1 38 0)), (2, .int x2), (4, .int x4), (5, .int x5), (7, .int x7), (8, .int x8), (10, .int s.1)] [] s.2 := by
  intro j
  induction j with
  | zero => intro s s' ka h; cases h
  | succ j ih =>
    intro s s' ka h hk kk
    rcases gIt_s h with ⟨s1, h1, h2⟩ | h1
    · refine t_Law_best_s408 (kb := ka + 1) hl0 hX hY hT hR (Nat.le_refl _) (by omega) s.2 x2 x4 x5 x7 x8 s.1 (.inl s1) h1 (fun s0 e => ?_) (fun s0 e => nomatch e)
      cases e
      refine ih s1 s' (ka + 1) h2 (by omega) ?_
      rw [show ka + 1 + 1 * j = ka + 1 * (j + 1) by omega]
      exact kk
    · refine t_Law_best_s408 (kb := ka + 1) hl0 hX hY hT hR (Nat.le_refl _) (by omega) s.2 x2 x4 x5 x7 x8 s.1 (.inr s') h1 (fun s0 e => nomatch e) (fun s0 e => ?_)
      cases e
      exact g_useK hR (by omega) hk kk
noncomputable def f_Law_best_b636 (M : gMem) (x4 : Int32) (x5 : Int32) (x7 : Int32) : Option (Int32 × gMem) :=
  (f_Law_call M 9 0 0 0).bind fun q49 =>
  (f_Law_thrown q49.1).bind fun q50 =>
  if q50 = 0 then
    (onQ (fun M => f_Law_call M 9 0 0 0) q49.2).bind fun q52 =>
    (f_Law_thrown q52.1).bind fun q53 =>
    if q53 = 0 then
      (f_Law_call q52.2 2 (5 + x4) 0 0).bind fun q55 =>
      if q55.1 = x5 then
        (f_Law_call q55.2 11 0 0 0).bind fun q57 =>
        if q57.1 = x7 then
          (gBl 1).bind fun _ =>
          some (1, q57.2)
        else
          (gBl 0).bind fun _ =>
          some (0, q57.2)
      else
        (gBl 0).bind fun _ =>
        some (0, q55.2)
    else
      (gBl 0).bind fun _ =>
      some (0, q52.2)
  else
    (gBl 0).bind fun _ =>
    some (0, q49.2)
theorem t_Law_best_b636 {l : Launch} {ε : gEnv} (hl0 : l.stackTraces = false) (hX : gXw ε) (hY : gXw (swE ε)) {R : Room} {K ka : Nat} (hR : gRm R 0 0 K 156 6144) (hk : ka + 4 ≤ K) (M : gMem) (x4 : Int32) (x5 : Int32) (x7 : Int32) (r : Int32 × gMem) (h : f_Law_best_b636 M x4 x5 x7 = some r) : gGo l ε k_Law_best R (gFk ε K (some (.int r.1)) r.2 ka) 636 [(0, .ref (ε.2.2.1 18 0)), (1, .ref (ε.2.2.1 38 0)), (4, .int x4), (5, .int x5), (7, .int x7)] [] M := by
  unfold f_Law_best_b636 at h
  refine g_aload_n d_Law_best_636 rfl 0 rfl ?_
  refine g_bipush (v := 9) d_Law_best_637 (by decide) ?_
  refine g_iconst (v := 0) d_Law_best_639 (by decide) ?_
  refine g_iconst (v := 0) d_Law_best_640 (by decide) ?_
  refine g_iconst (v := 0) d_Law_best_641 (by decide) ?_
  obtain ⟨q49, hq49, h⟩ := gOb h
  refine g_callK (kb := (ka + 1)) (As := [.ref (ε.2.2.1 18 0), .int 9, .int 0, .int 0, .int 0]) (rest := []) gTk_ok hR (fun _ => ctk_Law_call hl0 hX M 9 0 0 0 _ hq49) d_Law_best_642 ca_Law_call w_281 rfl rfl (Nat.le_of_ble_eq_true rfl) ⟨(Nat.le_of_ble_eq_true rfl), (Nat.le_of_ble_eq_true rfl)⟩ (Nat.le_refl _) (gLe hk (Nat.le_of_ble_eq_true rfl)) ?_
  obtain ⟨q50, hq50, h⟩ := gOb h
  refine g_callS_i (As := [.int q49.1]) (rest := []) (ct_Law_thrown q49.2 q49.1 _ hq50) d_Law_best_645 ca_Law_thrown w_968 rfl rfl (Nat.le_of_ble_eq_true rfl) ⟨Nat.le_trans (Nat.le_of_ble_eq_true rfl) hR.2.2.1, Nat.le_trans (Nat.le_of_ble_eq_true rfl) hR.2.2.2⟩ ?_
  refine g_if_ne (tgt := 700) d_Law_best_648 (by decide) (fun c63 => ?_) (fun c63 => ?_)
  · rw [if_neg c63] at h
    refine g_iconst (v := 0) d_Law_best_700 (by decide) ?_
    obtain ⟨z51, hz51, h⟩ := gOb h
    obtain rfl := Option.some.inj h
    exact g_zretK hR d_Law_best_701 rfl hz51 (gLe hk (Nat.le_of_ble_eq_true rfl))
  · rw [if_pos c63] at h
    refine g_aload_n d_Law_best_651 rfl 1 rfl ?_
    refine g_bipush (v := 9) d_Law_best_652 (by decide) ?_
    refine g_iconst (v := 0) d_Law_best_654 (by decide) ?_
    refine g_iconst (v := 0) d_Law_best_655 (by decide) ?_
    refine g_iconst (v := 0) d_Law_best_656 (by decide) ?_
    obtain ⟨q52, hq52, h⟩ := gOb h
    refine g_callK (kb := (ka + 2)) (As := [.ref (ε.2.2.1 38 0), .int 9, .int 0, .int 0, .int 0]) (rest := []) gTk_ok hR (fun _ => ctkq_Law_call hl0 hY q49.2 9 0 0 0 _ hq52) d_Law_best_657 ca_Law_call w_281 rfl rfl (Nat.le_of_ble_eq_true rfl) ⟨(Nat.le_of_ble_eq_true rfl), (Nat.le_of_ble_eq_true rfl)⟩ (Nat.le_refl _) (gLe hk (Nat.le_of_ble_eq_true rfl)) ?_
    obtain ⟨q53, hq53, h⟩ := gOb h
    refine g_callS_i (As := [.int q52.1]) (rest := []) (ct_Law_thrown q52.2 q52.1 _ hq53) d_Law_best_660 ca_Law_thrown w_968 rfl rfl (Nat.le_of_ble_eq_true rfl) ⟨Nat.le_trans (Nat.le_of_ble_eq_true rfl) hR.2.2.1, Nat.le_trans (Nat.le_of_ble_eq_true rfl) hR.2.2.2⟩ ?_
    refine g_if_ne (tgt := 700) d_Law_best_663 (by decide) (fun c62 => ?_) (fun c62 => ?_)
    · rw [if_neg c62] at h
      refine g_iconst (v := 0) d_Law_best_700 (by decide) ?_
      obtain ⟨z54, hz54, h⟩ := gOb h
      obtain rfl := Option.some.inj h
      exact g_zretK hR d_Law_best_701 rfl hz54 (gLe hk (Nat.le_of_ble_eq_true rfl))
    · rw [if_pos c62] at h
      refine g_aload_n d_Law_best_666 rfl 0 rfl ?_
      refine g_iconst (v := 2) d_Law_best_667 (by decide) ?_
      refine g_iconst (v := 5) d_Law_best_668 (by decide) ?_
      refine g_iload d_Law_best_669 2 rfl ?_
      refine g_iadd d_Law_best_671 ?_
      refine g_iconst (v := 0) d_Law_best_672 (by decide) ?_
      refine g_iconst (v := 0) d_Law_best_673 (by decide) ?_
      obtain ⟨q55, hq55, h⟩ := gOb h
      refine g_callK (kb := (ka + 3)) (As := [.ref (ε.2.2.1 18 0), .int 2, .int (5 + x4), .int 0, .int 0]) (rest := []) gTk_ok hR (fun _ => ctk_Law_call hl0 hX q52.2 2 (5 + x4) 0 0 _ hq55) d_Law_best_674 ca_Law_call w_281 rfl rfl (Nat.le_of_ble_eq_true rfl) ⟨(Nat.le_of_ble_eq_true rfl), (Nat.le_of_ble_eq_true rfl)⟩ (Nat.le_refl _) (gLe hk (Nat.le_of_ble_eq_true rfl)) ?_
      refine g_iload d_Law_best_677 3 rfl ?_
      refine g_icmp_ne (tgt := 700) d_Law_best_679 (by decide) (fun c61 => ?_) (fun c61 => ?_)
      · rw [if_neg c61] at h
        refine g_iconst (v := 0) d_Law_best_700 (by decide) ?_
        obtain ⟨z56, hz56, h⟩ := gOb h
        obtain rfl := Option.some.inj h
        exact g_zretK hR d_Law_best_701 rfl hz56 (gLe hk (Nat.le_of_ble_eq_true rfl))
      · rw [if_pos c61] at h
        refine g_aload_n d_Law_best_682 rfl 0 rfl ?_
        refine g_bipush (v := 11) d_Law_best_683 (by decide) ?_
        refine g_iconst (v := 0) d_Law_best_685 (by decide) ?_
        refine g_iconst (v := 0) d_Law_best_686 (by decide) ?_
        refine g_iconst (v := 0) d_Law_best_687 (by decide) ?_
        obtain ⟨q57, hq57, h⟩ := gOb h
        refine g_callK (kb := (ka + 4)) (As := [.ref (ε.2.2.1 18 0), .int 11, .int 0, .int 0, .int 0]) (rest := []) gTk_ok hR (fun _ => ctk_Law_call hl0 hX q55.2 11 0 0 0 _ hq57) d_Law_best_688 ca_Law_call w_281 rfl rfl (Nat.le_of_ble_eq_true rfl) ⟨(Nat.le_of_ble_eq_true rfl), (Nat.le_of_ble_eq_true rfl)⟩ (Nat.le_refl _) (gLe hk (Nat.le_of_ble_eq_true rfl)) ?_
        refine g_iload d_Law_best_691 4 rfl ?_
        refine g_icmp_ne (tgt := 700) d_Law_best_693 (by decide) (fun c60 => ?_) (fun c60 => ?_)
        · rw [if_neg c60] at h
          refine g_iconst (v := 0) d_Law_best_700 (by decide) ?_
          obtain ⟨z58, hz58, h⟩ := gOb h
          obtain rfl := Option.some.inj h
          exact g_zretK hR d_Law_best_701 rfl hz58 (gLe hk (Nat.le_of_ble_eq_true rfl))
        · rw [if_pos c60] at h
          refine g_iconst (v := 1) d_Law_best_696 (by decide) ?_
          refine g_goto (tgt := 701) d_Law_best_697 (by decide) ?_
          obtain ⟨z59, hz59, h⟩ := gOb h
          obtain rfl := Option.some.inj h
          exact g_zretK hR d_Law_best_701 rfl hz59 (gLe hk (Nat.le_of_ble_eq_true rfl))
noncomputable def f_Law_best_b608 (M : gMem) (x4 : Int32) (x5 : Int32) (x7 : Int32) (x8 : Int32) (x11 : Int32) (x12 : Int32) (s0 : Int32) : Option (Int32 × gMem) :=
  if x8 = 0 then
    (gBl 0).bind fun _ =>
    some (0, M)
  else
    if s0 < x7 then
      f_Law_best_b636 M x4 x5 x7
    else
      if s0 = x7 then
        if x11 < x12 then
          (gBl 0).bind fun _ =>
          some (0, M)
        else
          f_Law_best_b636 M x4 x5 x7
      else
        (gBl 0).bind fun _ =>
        some (0, M)
theorem t_Law_best_b608 {l : Launch} {ε : gEnv} (hl0 : l.stackTraces = false) (hX : gXw ε) (hY : gXw (swE ε)) {R : Room} {K ka : Nat} (hR : gRm R 0 0 K 156 6144) (hk : ka + 4 ≤ K) (M : gMem) (x4 : Int32) (x5 : Int32) (x7 : Int32) (x8 : Int32) (x11 : Int32) (x12 : Int32) (s0 : Int32) (r : Int32 × gMem) (h : f_Law_best_b608 M x4 x5 x7 x8 x11 x12 s0 = some r) : gGo l ε k_Law_best R (gFk ε K (some (.int r.1)) r.2 ka) 608 [(0, .ref (ε.2.2.1 18 0)), (1, .ref (ε.2.2.1 38 0)), (4, .int x4), (5, .int x5), (7, .int x7), (8, .int x8), (11, .int x11), (12, .int x12)] [.int s0] M := by
  unfold f_Law_best_b608 at h
  refine g_istore (L' := [(15, .int s0), (0, .ref (ε.2.2.1 18 0)), (1, .ref (ε.2.2.1 38 0)), (4, .int x4), (5, .int x5), (7, .int x7), (8, .int x8), (11, .int x11), (12, .int x12)]) d_Law_best_608 (by decide) rfl ?_
  refine g_iload d_Law_best_610 6 rfl ?_
  refine g_if_eq (tgt := 700) d_Law_best_612 (by decide) (fun c69 => ?_) (fun c69 => ?_)
  · rw [if_pos c69] at h
    refine g_iconst (v := 0) d_Law_best_700 (by decide) ?_
    obtain ⟨z48, hz48, h⟩ := gOb h
    obtain rfl := Option.some.inj h
    exact g_zretK hR d_Law_best_701 rfl hz48 (gLe0 hk)
  · rw [if_neg c69] at h
    refine g_iload d_Law_best_615 0 rfl ?_
    refine g_iload d_Law_best_617 5 rfl ?_
    refine g_icmp_lt (tgt := 636) d_Law_best_619 (by decide) (fun c68 => ?_) (fun c68 => ?_)
    · rw [if_pos c68] at h
      refine gGo_sub [1, 2, 3, 4, 5] rfl ?_
      exact t_Law_best_b636 hl0 hX hY hR (gLe hk (Nat.le_of_ble_eq_true rfl)) M x4 x5 x7 _ h
    · rw [if_neg c68] at h
      refine g_iload d_Law_best_622 0 rfl ?_
      refine g_iload d_Law_best_624 5 rfl ?_
      refine g_icmp_ne (tgt := 700) d_Law_best_626 (by decide) (fun c67 => ?_) (fun c67 => ?_)
      · rw [if_neg c67] at h
        refine g_iconst (v := 0) d_Law_best_700 (by decide) ?_
        obtain ⟨z64, hz64, h⟩ := gOb h
        obtain rfl := Option.some.inj h
        exact g_zretK hR d_Law_best_701 rfl hz64 (gLe0 hk)
      · rw [if_pos c67] at h
        refine g_iload d_Law_best_629 7 rfl ?_
        refine g_iload d_Law_best_631 8 rfl ?_
        refine g_icmp_lt (tgt := 700) d_Law_best_633 (by decide) (fun c66 => ?_) (fun c66 => ?_)
        · rw [if_pos c66] at h
          refine g_iconst (v := 0) d_Law_best_700 (by decide) ?_
          obtain ⟨z65, hz65, h⟩ := gOb h
          obtain rfl := Option.some.inj h
          exact g_zretK hR d_Law_best_701 rfl hz65 (gLe0 hk)
        · rw [if_neg c66] at h
          refine gGo_sub [1, 2, 3, 4, 5] rfl ?_
          exact t_Law_best_b636 hl0 hX hY hR (gLe hk (Nat.le_of_ble_eq_true rfl)) M x4 x5 x7 _ h
noncomputable def f_Law_best_b505 (M : gMem) (x4 : Int32) (x5 : Int32) (x7 : Int32) (x11 : Int32) (x12 : Int32) (s0 : Int32) : Option (Int32 × gMem) :=
  (f_Law_call M 2 (5 + x4) 0 0).bind fun q42 =>
  (f_Law_call q42.2 2 5 0 0).bind fun q43 =>
  (f_Law_call q43.2 2 6 0 0).bind fun q44 =>
  (f_Law_call q44.2 2 1 0 0).bind fun q45 =>
  if q45.1 = 3 then
    f_Law_best_b608 q45.2 x4 x5 x7 s0 x11 x12 (q42.1 - x5)
  else
    (f_Law_call q45.2 2 2 0 0).bind fun q46 =>
    if (gRem q46.1 2) = x4 then
      (f_Law_call q46.2 11 0 0 0).bind fun q70 =>
      f_Law_best_b608 q70.2 x4 x5 x7 s0 x11 x12 ((q42.1 - x5) + q70.1)
    else
      (f_Law_call q46.2 11 0 0 0).bind fun q47 =>
      f_Law_best_b608 q47.2 x4 x5 x7 s0 x11 x12 (((q42.1 - x5) + ((8 - q43.1) - q44.1)) - q47.1)
theorem t_Law_best_b505 {l : Launch} {ε : gEnv} (hl0 : l.stackTraces = false) (hX : gXw ε) (hY : gXw (swE ε)) {R : Room} {K ka : Nat} (hR : gRm R 0 0 K 156 6144) (hk : ka + 10 ≤ K) (M : gMem) (x4 : Int32) (x5 : Int32) (x7 : Int32) (x11 : Int32) (x12 : Int32) (s0 : Int32) (r : Int32 × gMem) (h : f_Law_best_b505 M x4 x5 x7 x11 x12 s0 = some r) : gGo l ε k_Law_best R (gFk ε K (some (.int r.1)) r.2 ka) 505 [(0, .ref (ε.2.2.1 18 0)), (1, .ref (ε.2.2.1 38 0)), (4, .int x4), (5, .int x5), (7, .int x7), (11, .int x11), (12, .int x12)] [.int s0] M := by
  unfold f_Law_best_b505 at h
  refine g_istore (L' := [(8, .int s0), (0, .ref (ε.2.2.1 18 0)), (1, .ref (ε.2.2.1 38 0)), (4, .int x4), (5, .int x5), (7, .int x7), (11, .int x11), (12, .int x12)]) d_Law_best_505 (by decide) rfl ?_
  refine g_aload_n d_Law_best_507 rfl 1 rfl ?_
  refine g_iconst (v := 2) d_Law_best_508 (by decide) ?_
  refine g_iconst (v := 5) d_Law_best_509 (by decide) ?_
  refine g_iload d_Law_best_510 3 rfl ?_
  refine g_iadd d_Law_best_512 ?_
  refine g_iconst (v := 0) d_Law_best_513 (by decide) ?_
  refine g_iconst (v := 0) d_Law_best_514 (by decide) ?_
  obtain ⟨q42, hq42, h⟩ := gOb h
  refine g_callK (kb := (ka + 1)) (As := [.ref (ε.2.2.1 18 0), .int 2, .int (5 + x4), .int 0, .int 0]) (rest := []) gTk_ok hR (fun _ => ctk_Law_call hl0 hX M 2 (5 + x4) 0 0 _ hq42) d_Law_best_515 ca_Law_call w_281 rfl rfl (Nat.le_of_ble_eq_true rfl) ⟨(Nat.le_of_ble_eq_true rfl), (Nat.le_of_ble_eq_true rfl)⟩ (Nat.le_refl _) (gLe hk (Nat.le_of_ble_eq_true rfl)) ?_
  refine g_iload d_Law_best_518 4 rfl ?_
  refine g_isub d_Law_best_520 ?_
  refine g_istore (L' := [(13, .int (q42.1 - x5)), (8, .int s0), (0, .ref (ε.2.2.1 18 0)), (1, .ref (ε.2.2.1 38 0)), (4, .int x4), (5, .int x5), (7, .int x7), (11, .int x11), (12, .int x12)]) d_Law_best_521 (by decide) rfl ?_
  refine g_bipush (v := 8) d_Law_best_523 (by decide) ?_
  refine g_aload_n d_Law_best_525 rfl 2 rfl ?_
  refine g_iconst (v := 2) d_Law_best_526 (by decide) ?_
  refine g_iconst (v := 5) d_Law_best_527 (by decide) ?_
  refine g_iconst (v := 0) d_Law_best_528 (by decide) ?_
  refine g_iconst (v := 0) d_Law_best_529 (by decide) ?_
  obtain ⟨q43, hq43, h⟩ := gOb h
  refine g_callK (kb := (ka + 2)) (As := [.ref (ε.2.2.1 18 0), .int 2, .int 5, .int 0, .int 0]) (rest := [.int 8]) gTk_ok hR (fun _ => ctk_Law_call hl0 hX q42.2 2 5 0 0 _ hq43) d_Law_best_530 ca_Law_call w_281 rfl rfl (Nat.le_of_ble_eq_true rfl) ⟨(Nat.le_of_ble_eq_true rfl), (Nat.le_of_ble_eq_true rfl)⟩ (Nat.le_refl _) (gLe hk (Nat.le_of_ble_eq_true rfl)) ?_
  refine g_isub d_Law_best_533 ?_
  refine g_aload_n d_Law_best_534 rfl 2 rfl ?_
  refine g_iconst (v := 2) d_Law_best_535 (by decide) ?_
  refine g_bipush (v := 6) d_Law_best_536 (by decide) ?_
  refine g_iconst (v := 0) d_Law_best_538 (by decide) ?_
  refine g_iconst (v := 0) d_Law_best_539 (by decide) ?_
  obtain ⟨q44, hq44, h⟩ := gOb h
  refine g_callK (kb := (ka + 3)) (As := [.ref (ε.2.2.1 18 0), .int 2, .int 6, .int 0, .int 0]) (rest := [.int (8 - q43.1)]) gTk_ok hR (fun _ => ctk_Law_call hl0 hX q43.2 2 6 0 0 _ hq44) d_Law_best_540 ca_Law_call w_281 rfl rfl (Nat.le_of_ble_eq_true rfl) ⟨(Nat.le_of_ble_eq_true rfl), (Nat.le_of_ble_eq_true rfl)⟩ (Nat.le_refl _) (gLe hk (Nat.le_of_ble_eq_true rfl)) ?_
  refine g_isub d_Law_best_543 ?_
  refine g_istore (L' := [(14, .int ((8 - q43.1) - q44.1)), (13, .int (q42.1 - x5)), (8, .int s0), (0, .ref (ε.2.2.1 18 0)), (1, .ref (ε.2.2.1 38 0)), (4, .int x4), (5, .int x5), (7, .int x7), (11, .int x11), (12, .int x12)]) d_Law_best_544 (by decide) rfl ?_
  refine g_aload_n d_Law_best_546 rfl 3 rfl ?_
  refine g_iconst (v := 2) d_Law_best_547 (by decide) ?_
  refine g_iconst (v := 1) d_Law_best_548 (by decide) ?_
  refine g_iconst (v := 0) d_Law_best_549 (by decide) ?_
  refine g_iconst (v := 0) d_Law_best_550 (by decide) ?_
  obtain ⟨q45, hq45, h⟩ := gOb h
  refine g_callK (kb := (ka + 4)) (As := [.ref (ε.2.2.1 18 0), .int 2, .int 1, .int 0, .int 0]) (rest := []) gTk_ok hR (fun _ => ctk_Law_call hl0 hX q44.2 2 1 0 0 _ hq45) d_Law_best_551 ca_Law_call w_281 rfl rfl (Nat.le_of_ble_eq_true rfl) ⟨(Nat.le_of_ble_eq_true rfl), (Nat.le_of_ble_eq_true rfl)⟩ (Nat.le_refl _) (gLe hk (Nat.le_of_ble_eq_true rfl)) ?_
  refine g_iconst (v := 3) d_Law_best_554 (by decide) ?_
  refine g_icmp_ne (tgt := 563) d_Law_best_555 (by decide) (fun c72 => ?_) (fun c72 => ?_)
  · rw [if_neg c72] at h
    refine g_aload_n d_Law_best_563 rfl 3 rfl ?_
    refine g_iconst (v := 2) d_Law_best_564 (by decide) ?_
    refine g_iconst (v := 2) d_Law_best_565 (by decide) ?_
    refine g_iconst (v := 0) d_Law_best_566 (by decide) ?_
    refine g_iconst (v := 0) d_Law_best_567 (by decide) ?_
    obtain ⟨q46, hq46, h⟩ := gOb h
    refine g_callK (kb := (ka + 5)) (As := [.ref (ε.2.2.1 18 0), .int 2, .int 2, .int 0, .int 0]) (rest := []) gTk_ok hR (fun _ => ctk_Law_call hl0 hX q45.2 2 2 0 0 _ hq46) d_Law_best_568 ca_Law_call w_281 rfl rfl (Nat.le_of_ble_eq_true rfl) ⟨(Nat.le_of_ble_eq_true rfl), (Nat.le_of_ble_eq_true rfl)⟩ (Nat.le_refl _) (gLe hk (Nat.le_of_ble_eq_true rfl)) ?_
    refine g_iconst (v := 2) d_Law_best_571 (by decide) ?_
    refine g_rem d_Law_best_572 (by decide) ?_
    refine g_iload d_Law_best_573 5 rfl ?_
    refine g_icmp_ne (tgt := 593) d_Law_best_575 (by decide) (fun c71 => ?_) (fun c71 => ?_)
    · rw [if_neg c71] at h
      refine g_iload d_Law_best_593 1 rfl ?_
      refine g_iload d_Law_best_595 0 rfl ?_
      refine g_iadd d_Law_best_597 ?_
      refine g_aload_n d_Law_best_598 rfl 3 rfl ?_
      refine g_bipush (v := 11) d_Law_best_599 (by decide) ?_
      refine g_iconst (v := 0) d_Law_best_601 (by decide) ?_
      refine g_iconst (v := 0) d_Law_best_602 (by decide) ?_
      refine g_iconst (v := 0) d_Law_best_603 (by decide) ?_
      obtain ⟨q47, hq47, h⟩ := gOb h
      refine g_callK (kb := (ka + 6)) (As := [.ref (ε.2.2.1 18 0), .int 11, .int 0, .int 0, .int 0]) (rest := [.int ((q42.1 - x5) + ((8 - q43.1) - q44.1))]) gTk_ok hR (fun _ => ctk_Law_call hl0 hX q46.2 11 0 0 0 _ hq47) d_Law_best_604 ca_Law_call w_281 rfl rfl (Nat.le_of_ble_eq_true rfl) ⟨(Nat.le_of_ble_eq_true rfl), (Nat.le_of_ble_eq_true rfl)⟩ (Nat.le_refl _) (gLe hk (Nat.le_of_ble_eq_true rfl)) ?_
      refine g_isub d_Law_best_607 ?_
      refine gGo_sub [3, 4, 5, 6, 7, 2, 8, 9] rfl ?_
      exact t_Law_best_b608 hl0 hX hY hR (gLe2 hk (Nat.le_of_ble_eq_true rfl)) q47.2 x4 x5 x7 s0 x11 x12 (((q42.1 - x5) + ((8 - q43.1) - q44.1)) - q47.1) _ h
    · rw [if_pos c71] at h
      refine g_iload d_Law_best_578 1 rfl ?_
      refine g_aload_n d_Law_best_580 rfl 3 rfl ?_
      refine g_bipush (v := 11) d_Law_best_581 (by decide) ?_
      refine g_iconst (v := 0) d_Law_best_583 (by decide) ?_
      refine g_iconst (v := 0) d_Law_best_584 (by decide) ?_
      refine g_iconst (v := 0) d_Law_best_585 (by decide) ?_
      obtain ⟨q70, hq70, h⟩ := gOb h
      refine g_callK (kb := (ka + 6)) (As := [.ref (ε.2.2.1 18 0), .int 11, .int 0, .int 0, .int 0]) (rest := [.int (q42.1 - x5)]) gTk_ok hR (fun _ => ctk_Law_call hl0 hX q46.2 11 0 0 0 _ hq70) d_Law_best_586 ca_Law_call w_281 rfl rfl (Nat.le_of_ble_eq_true rfl) ⟨(Nat.le_of_ble_eq_true rfl), (Nat.le_of_ble_eq_true rfl)⟩ (Nat.le_refl _) (gLe hk (Nat.le_of_ble_eq_true rfl)) ?_
      refine g_iadd d_Law_best_589 ?_
      refine g_goto (tgt := 608) d_Law_best_590 (by decide) ?_
      refine gGo_sub [3, 4, 5, 6, 7, 2, 8, 9] rfl ?_
      exact t_Law_best_b608 hl0 hX hY hR (gLe2 hk (Nat.le_of_ble_eq_true rfl)) q70.2 x4 x5 x7 s0 x11 x12 ((q42.1 - x5) + q70.1) _ h
  · rw [if_pos c72] at h
    refine g_iload d_Law_best_558 1 rfl ?_
    refine g_goto (tgt := 608) d_Law_best_560 (by decide) ?_
    refine gGo_sub [3, 4, 5, 6, 7, 2, 8, 9] rfl ?_
    exact t_Law_best_b608 hl0 hX hY hR (gLe2 hk (Nat.le_of_ble_eq_true rfl)) q45.2 x4 x5 x7 s0 x11 x12 (q42.1 - x5) _ h
noncomputable def f_Law_best_b504 (M : gMem) (x4 : Int32) (x5 : Int32) (x7 : Int32) (x11 : Int32) (x12 : Int32) : Option (Int32 × gMem) :=
  f_Law_best_b505 M x4 x5 x7 x11 x12 0
theorem t_Law_best_b504 {l : Launch} {ε : gEnv} (hl0 : l.stackTraces = false) (hX : gXw ε) (hY : gXw (swE ε)) {R : Room} {K ka : Nat} (hR : gRm R 0 0 K 156 6144) (hk : ka + 10 ≤ K) (M : gMem) (x4 : Int32) (x5 : Int32) (x7 : Int32) (x11 : Int32) (x12 : Int32) (r : Int32 × gMem) (h : f_Law_best_b504 M x4 x5 x7 x11 x12 = some r) : gGo l ε k_Law_best R (gFk ε K (some (.int r.1)) r.2 ka) 504 [(0, .ref (ε.2.2.1 18 0)), (1, .ref (ε.2.2.1 38 0)), (4, .int x4), (5, .int x5), (7, .int x7), (11, .int x11), (12, .int x12)] [] M := by
  unfold f_Law_best_b504 at h
  refine g_iconst (v := 0) d_Law_best_504 (by decide) ?_
  exact t_Law_best_b505 hl0 hX hY hR (gLe hk (Nat.le_of_ble_eq_true rfl)) M x4 x5 x7 x11 x12 0 _ h
noncomputable def f_Law_best_b450 (M : gMem) (x4 : Int32) (x5 : Int32) (x7 : Int32) (x8 : Int32) (s0 : Int32) (s1 : Int32) (s2 : Int32) : Option (Int32 × gMem) :=
  (gNz s0).bind fun _ =>
  (f_Law_call M s2 (gRem s1 s0) 0 0).bind fun q40 =>
  (f_Law_call q40.2 12 0 0 0).bind fun q41 =>
  if x8 = 0 then
    f_Law_best_b504 q41.2 x4 x5 x7 q40.1 q41.1
  else
    (f_Law_call q41.2 8 q40.1 0 0).bind fun q73 =>
    if q73.1 = 0 then
      (onQ (fun M => f_Law_call M 8 q40.1 0 0) q73.2).bind fun q74 =>
      if q74.1 = 0 then
        f_Law_best_b505 q74.2 x4 x5 x7 q40.1 q41.1 1
      else
        f_Law_best_b504 q74.2 x4 x5 x7 q40.1 q41.1
    else
      f_Law_best_b504 q73.2 x4 x5 x7 q40.1 q41.1
theorem t_Law_best_b450 {l : Launch} {ε : gEnv} (hl0 : l.stackTraces = false) (hX : gXw ε) (hY : gXw (swE ε)) {R : Room} {K ka : Nat} (hR : gRm R 0 0 K 156 6144) (hk : ka + 14 ≤ K) (M : gMem) (x4 : Int32) (x5 : Int32) (x7 : Int32) (x8 : Int32) (s0 : Int32) (s1 : Int32) (s2 : Int32) (r : Int32 × gMem) (h : f_Law_best_b450 M x4 x5 x7 x8 s0 s1 s2 = some r) : gGo l ε k_Law_best R (gFk ε K (some (.int r.1)) r.2 ka) 450 [(0, .ref (ε.2.2.1 18 0)), (1, .ref (ε.2.2.1 38 0)), (4, .int x4), (5, .int x5), (7, .int x7), (8, .int x8)] [.int s0, .int s1, .int s2, .ref (ε.2.2.1 18 0)] M := by
  unfold f_Law_best_b450 at h
  obtain ⟨z39, hz39, h⟩ := gOb h
  refine g_rem d_Law_best_450 (gNz_s hz39).2 ?_
  refine g_iconst (v := 0) d_Law_best_451 (by decide) ?_
  refine g_iconst (v := 0) d_Law_best_452 (by decide) ?_
  obtain ⟨q40, hq40, h⟩ := gOb h
  refine g_callK (kb := (ka + 1)) (As := [.ref (ε.2.2.1 18 0), .int s2, .int (gRem s1 s0), .int 0, .int 0]) (rest := []) gTk_ok hR (fun _ => ctk_Law_call hl0 hX M s2 (gRem s1 s0) 0 0 _ hq40) d_Law_best_453 ca_Law_call w_281 rfl rfl (Nat.le_of_ble_eq_true rfl) ⟨(Nat.le_of_ble_eq_true rfl), (Nat.le_of_ble_eq_true rfl)⟩ (Nat.le_refl _) (gLe hk (Nat.le_of_ble_eq_true rfl)) ?_
  refine g_istore (L' := [(11, .int q40.1), (0, .ref (ε.2.2.1 18 0)), (1, .ref (ε.2.2.1 38 0)), (4, .int x4), (5, .int x5), (7, .int x7), (8, .int x8)]) d_Law_best_456 (by decide) rfl ?_
  refine g_aload_n d_Law_best_458 rfl 1 rfl ?_
  refine g_bipush (v := 12) d_Law_best_459 (by decide) ?_
  refine g_iconst (v := 0) d_Law_best_461 (by decide) ?_
  refine g_iconst (v := 0) d_Law_best_462 (by decide) ?_
  refine g_iconst (v := 0) d_Law_best_463 (by decide) ?_
  obtain ⟨q41, hq41, h⟩ := gOb h
  refine g_callK (kb := (ka + 2)) (As := [.ref (ε.2.2.1 18 0), .int 12, .int 0, .int 0, .int 0]) (rest := []) gTk_ok hR (fun _ => ctk_Law_call hl0 hX q40.2 12 0 0 0 _ hq41) d_Law_best_464 ca_Law_call w_281 rfl rfl (Nat.le_of_ble_eq_true rfl) ⟨(Nat.le_of_ble_eq_true rfl), (Nat.le_of_ble_eq_true rfl)⟩ (Nat.le_refl _) (gLe hk (Nat.le_of_ble_eq_true rfl)) ?_
  refine g_istore (L' := [(12, .int q41.1), (11, .int q40.1), (0, .ref (ε.2.2.1 18 0)), (1, .ref (ε.2.2.1 38 0)), (4, .int x4), (5, .int x5), (7, .int x7), (8, .int x8)]) d_Law_best_467 (by decide) rfl ?_
  refine g_iload d_Law_best_469 7 rfl ?_
  refine g_if_eq (tgt := 504) d_Law_best_471 (by decide) (fun c77 => ?_) (fun c77 => ?_)
  · rw [if_pos c77] at h
    refine gGo_sub [2, 3, 4, 5, 6, 1, 0] rfl ?_
    exact t_Law_best_b504 hl0 hX hY hR (gLe2 hk (Nat.le_of_ble_eq_true rfl)) q41.2 x4 x5 x7 q40.1 q41.1 _ h
  · rw [if_neg c77] at h
    refine g_aload_n d_Law_best_474 rfl 2 rfl ?_
    refine g_bipush (v := 8) d_Law_best_475 (by decide) ?_
    refine g_iload d_Law_best_477 1 rfl ?_
    refine g_iconst (v := 0) d_Law_best_479 (by decide) ?_
    refine g_iconst (v := 0) d_Law_best_480 (by decide) ?_
    obtain ⟨q73, hq73, h⟩ := gOb h
    refine g_callK (kb := (ka + 3)) (As := [.ref (ε.2.2.1 18 0), .int 8, .int q40.1, .int 0, .int 0]) (rest := []) gTk_ok hR (fun _ => ctk_Law_call hl0 hX q41.2 8 q40.1 0 0 _ hq73) d_Law_best_481 ca_Law_call w_281 rfl rfl (Nat.le_of_ble_eq_true rfl) ⟨(Nat.le_of_ble_eq_true rfl), (Nat.le_of_ble_eq_true rfl)⟩ (Nat.le_refl _) (gLe hk (Nat.le_of_ble_eq_true rfl)) ?_
    refine g_if_ne (tgt := 504) d_Law_best_484 (by decide) (fun c76 => ?_) (fun c76 => ?_)
    · rw [if_neg c76] at h
      refine gGo_sub [2, 3, 4, 5, 6, 1, 0] rfl ?_
      exact t_Law_best_b504 hl0 hX hY hR (gLe2 hk (Nat.le_of_ble_eq_true rfl)) q73.2 x4 x5 x7 q40.1 q41.1 _ h
    · rw [if_pos c76] at h
      refine g_aload_n d_Law_best_487 rfl 3 rfl ?_
      refine g_bipush (v := 8) d_Law_best_488 (by decide) ?_
      refine g_iload d_Law_best_490 1 rfl ?_
      refine g_iconst (v := 0) d_Law_best_492 (by decide) ?_
      refine g_iconst (v := 0) d_Law_best_493 (by decide) ?_
      obtain ⟨q74, hq74, h⟩ := gOb h
      refine g_callK (kb := (ka + 4)) (As := [.ref (ε.2.2.1 38 0), .int 8, .int q40.1, .int 0, .int 0]) (rest := []) gTk_ok hR (fun _ => ctkq_Law_call hl0 hY q73.2 8 q40.1 0 0 _ hq74) d_Law_best_494 ca_Law_call w_281 rfl rfl (Nat.le_of_ble_eq_true rfl) ⟨(Nat.le_of_ble_eq_true rfl), (Nat.le_of_ble_eq_true rfl)⟩ (Nat.le_refl _) (gLe hk (Nat.le_of_ble_eq_true rfl)) ?_
      refine g_if_ne (tgt := 504) d_Law_best_497 (by decide) (fun c75 => ?_) (fun c75 => ?_)
      · rw [if_neg c75] at h
        refine gGo_sub [2, 3, 4, 5, 6, 1, 0] rfl ?_
        exact t_Law_best_b504 hl0 hX hY hR (gLe2 hk (Nat.le_of_ble_eq_true rfl)) q74.2 x4 x5 x7 q40.1 q41.1 _ h
      · rw [if_pos c75] at h
        refine g_iconst (v := 1) d_Law_best_500 (by decide) ?_
        refine g_goto (tgt := 505) d_Law_best_501 (by decide) ?_
        refine gGo_sub [2, 3, 4, 5, 6, 1, 0] rfl ?_
        exact t_Law_best_b505 hl0 hX hY hR (gLe2 hk (Nat.le_of_ble_eq_true rfl)) q74.2 x4 x5 x7 q40.1 q41.1 1 _ h
noncomputable def f_Law_best_b345 (M : gMem) (x2 : Int32) (x4 : Int32) (x5 : Int32) (x7 : Int32) (x9 : Int32) (s0 : Int32) : Option (Int32 × gMem) :=
  (f_Law_best_l350 x2 x4 x5 x7 x9 13 (s0, 0, M)).bind fun q34 =>
  (f_Law_best_l408 x2 x4 x5 x7 q34.1 9 (0, q34.2.2)).bind fun q38 =>
  if q38.1 ≤ 0 then
    f_Law_best_b450 q38.2 x4 x5 x7 q34.1 1 x2 10
  else
    f_Law_best_b450 q38.2 x4 x5 x7 q34.1 q38.1 x2 10
theorem t_Law_best_b345 {l : Launch} {ε : gEnv} (hl0 : l.stackTraces = false) (hX : gXw ε) (hY : gXw (swE ε)) {R : Room} {K ka : Nat} (hR : gRm R 0 0 K 156 6144) (hk : ka + 49 ≤ K) (M : gMem) (x2 : Int32) (x4 : Int32) (x5 : Int32) (x7 : Int32) (x9 : Int32) (s0 : Int32) (r : Int32 × gMem) (h : f_Law_best_b345 M x2 x4 x5 x7 x9 s0 = some r) : gGo l ε k_Law_best R (gFk ε K (some (.int r.1)) r.2 ka) 345 [(0, .ref (ε.2.2.1 18 0)), (1, .ref (ε.2.2.1 38 0)), (2, .int x2), (4, .int x4), (5, .int x5), (7, .int x7), (9, .int x9)] [.int s0] M := by
  unfold f_Law_best_b345 at h
  refine g_istore (L' := [(8, .int s0), (0, .ref (ε.2.2.1 18 0)), (1, .ref (ε.2.2.1 38 0)), (2, .int x2), (4, .int x4), (5, .int x5), (7, .int x7), (9, .int x9)]) d_Law_best_345 (by decide) rfl ?_
  refine g_iconst (v := 0) d_Law_best_347 (by decide) ?_
  refine g_istore (L' := [(10, .int 0), (8, .int s0), (0, .ref (ε.2.2.1 18 0)), (1, .ref (ε.2.2.1 38 0)), (2, .int x2), (4, .int x4), (5, .int x5), (7, .int x7), (9, .int x9)]) d_Law_best_348 (by decide) rfl ?_
  obtain ⟨q34, hq34, h⟩ := gOb h
  refine gGo_sub [2, 3, 4, 5, 6, 7, 1, 8, 0] rfl ?_
  refine t_Law_best_l350 hl0 hX hY gTk_ok hR x2 x4 x5 x7 x9 13 (s0, 0, M) q34 ka hq34 (by omega) ?_
  refine g_useK hR (kb := (ka + 26)) (by omega) (gLe hk (Nat.le_of_ble_eq_true rfl)) ?_
  refine g_iconst (v := 0) d_Law_best_405 (by decide) ?_
  refine g_istore (L' := [(10, .int 0), (0, .ref (ε.2.2.1 18 0)), (1, .ref (ε.2.2.1 38 0)), (2, .int x2), (4, .int x4), (5, .int x5), (7, .int x7), (8, .int q34.1), (9, .int x9)]) d_Law_best_406 (by decide) rfl ?_
  obtain ⟨q38, hq38, h⟩ := gOb h
  refine gGo_sub [1, 2, 3, 4, 5, 6, 7, 0] rfl ?_
  refine t_Law_best_l408 hl0 hX hY gTk_ok hR x2 x4 x5 x7 q34.1 9 (0, q34.2.2) q38 (ka + 26) hq38 (by omega) ?_
  refine g_useK hR (kb := (ka + 35)) (by omega) (gLe hk (Nat.le_of_ble_eq_true rfl)) ?_
  refine g_aload_n d_Law_best_435 rfl 0 rfl ?_
  refine g_bipush (v := 10) d_Law_best_436 (by decide) ?_
  refine g_iload_n d_Law_best_438 rfl 2 rfl ?_
  refine g_iload d_Law_best_439 7 rfl ?_
  refine g_if_le (tgt := 449) d_Law_best_441 (by decide) (fun c78 => ?_) (fun c78 => ?_)
  · rw [if_pos c78] at h
    refine g_iconst (v := 1) d_Law_best_449 (by decide) ?_
    refine gGo_sub [0, 1, 3, 4, 5, 6] rfl ?_
    exact t_Law_best_b450 hl0 hX hY hR (gLe2 hk (Nat.le_of_ble_eq_true rfl)) q38.2 x4 x5 x7 q34.1 1 x2 10 _ h
  · rw [if_neg c78] at h
    refine g_iload d_Law_best_444 7 rfl ?_
    refine g_goto (tgt := 450) d_Law_best_446 (by decide) ?_
    refine gGo_sub [0, 1, 3, 4, 5, 6] rfl ?_
    exact t_Law_best_b450 hl0 hX hY hR (gLe2 hk (Nat.le_of_ble_eq_true rfl)) q38.2 x4 x5 x7 q34.1 q38.1 x2 10 _ h
noncomputable def f_Law_best_b344 (M : gMem) (x2 : Int32) (x4 : Int32) (x5 : Int32) (x7 : Int32) (x9 : Int32) : Option (Int32 × gMem) :=
  f_Law_best_b345 M x2 x4 x5 x7 x9 0
theorem t_Law_best_b344 {l : Launch} {ε : gEnv} (hl0 : l.stackTraces = false) (hX : gXw ε) (hY : gXw (swE ε)) {R : Room} {K ka : Nat} (hR : gRm R 0 0 K 156 6144) (hk : ka + 49 ≤ K) (M : gMem) (x2 : Int32) (x4 : Int32) (x5 : Int32) (x7 : Int32) (x9 : Int32) (r : Int32 × gMem) (h : f_Law_best_b344 M x2 x4 x5 x7 x9 = some r) : gGo l ε k_Law_best R (gFk ε K (some (.int r.1)) r.2 ka) 344 [(0, .ref (ε.2.2.1 18 0)), (1, .ref (ε.2.2.1 38 0)), (2, .int x2), (4, .int x4), (5, .int x5), (7, .int x7), (9, .int x9)] [] M := by
  unfold f_Law_best_b344 at h
  refine g_iconst (v := 0) d_Law_best_344 (by decide) ?_
  exact t_Law_best_b345 hl0 hX hY hR (gLe hk (Nat.le_of_ble_eq_true rfl)) M x2 x4 x5 x7 x9 0 _ h
noncomputable def f_Law_best_b150 (M : gMem) (x2 : Int32) (x4 : Int32) (x5 : Int32) (x7 : Int32) (s0 : Int32) : Option (Int32 × gMem) :=
  (f_Law_best_l155 x2 x4 x5 x7 13 (s0, 0, M)).bind fun q25 =>
  if q25.1 = 0 then
    f_Law_best_b344 q25.2.2 x2 x4 x5 x7 q25.2.1
  else
    (f_Law_call q25.2.2 2 (5 + x4) 0 0).bind fun q79 =>
    if q79.1 = (x5 + x7) then
      f_Law_best_b345 q79.2 x2 x4 x5 x7 q25.2.1 1
    else
      f_Law_best_b344 q79.2 x2 x4 x5 x7 q25.2.1
theorem t_Law_best_b150 {l : Launch} {ε : gEnv} (hl0 : l.stackTraces = false) (hX : gXw ε) (hY : gXw (swE ε)) {R : Room} {K ka : Nat} (hR : gRm R 0 0 K 156 6144) (hk : ka + 167 ≤ K) (M : gMem) (x2 : Int32) (x4 : Int32) (x5 : Int32) (x7 : Int32) (s0 : Int32) (r : Int32 × gMem) (h : f_Law_best_b150 M x2 x4 x5 x7 s0 = some r) : gGo l ε k_Law_best R (gFk ε K (some (.int r.1)) r.2 ka) 150 [(0, .ref (ε.2.2.1 18 0)), (1, .ref (ε.2.2.1 38 0)), (2, .int x2), (4, .int x4), (5, .int x5), (7, .int x7)] [.int s0] M := by
  unfold f_Law_best_b150 at h
  refine g_istore (L' := [(8, .int s0), (0, .ref (ε.2.2.1 18 0)), (1, .ref (ε.2.2.1 38 0)), (2, .int x2), (4, .int x4), (5, .int x5), (7, .int x7)]) d_Law_best_150 (by decide) rfl ?_
  refine g_iconst (v := 0) d_Law_best_152 (by decide) ?_
  refine g_istore (L' := [(9, .int 0), (8, .int s0), (0, .ref (ε.2.2.1 18 0)), (1, .ref (ε.2.2.1 38 0)), (2, .int x2), (4, .int x4), (5, .int x5), (7, .int x7)]) d_Law_best_153 (by decide) rfl ?_
  obtain ⟨q25, hq25, h⟩ := gOb h
  refine gGo_sub [2, 3, 4, 5, 6, 7, 1, 0] rfl ?_
  refine t_Law_best_l155 hl0 hX hY gTk_ok hR x2 x4 x5 x7 13 (s0, 0, M) q25 ka hq25 (by omega) ?_
  refine g_useK hR (kb := (ka + 117)) (by omega) (gLe hk (Nat.le_of_ble_eq_true rfl)) ?_
  refine g_iload d_Law_best_316 6 rfl ?_
  refine g_if_eq (tgt := 344) d_Law_best_318 (by decide) (fun c81 => ?_) (fun c81 => ?_)
  · rw [if_pos c81] at h
    refine gGo_sub [0, 1, 2, 3, 4, 5, 7] rfl ?_
    exact t_Law_best_b344 hl0 hX hY hR (gLe2 hk (Nat.le_of_ble_eq_true rfl)) q25.2.2 x2 x4 x5 x7 q25.2.1 _ h
  · rw [if_neg c81] at h
    refine g_aload_n d_Law_best_321 rfl 0 rfl ?_
    refine g_iconst (v := 2) d_Law_best_322 (by decide) ?_
    refine g_iconst (v := 5) d_Law_best_323 (by decide) ?_
    refine g_iload d_Law_best_324 3 rfl ?_
    refine g_iadd d_Law_best_326 ?_
    refine g_iconst (v := 0) d_Law_best_327 (by decide) ?_
    refine g_iconst (v := 0) d_Law_best_328 (by decide) ?_
    obtain ⟨q79, hq79, h⟩ := gOb h
    refine g_callK (kb := (ka + 118)) (As := [.ref (ε.2.2.1 18 0), .int 2, .int (5 + x4), .int 0, .int 0]) (rest := []) gTk_ok hR (fun _ => ctk_Law_call hl0 hX q25.2.2 2 (5 + x4) 0 0 _ hq79) d_Law_best_329 ca_Law_call w_281 rfl rfl (Nat.le_of_ble_eq_true rfl) ⟨(Nat.le_of_ble_eq_true rfl), (Nat.le_of_ble_eq_true rfl)⟩ (Nat.le_refl _) (gLe hk (Nat.le_of_ble_eq_true rfl)) ?_
    refine g_iload d_Law_best_332 4 rfl ?_
    refine g_iload d_Law_best_334 5 rfl ?_
    refine g_iadd d_Law_best_336 ?_
    refine g_icmp_ne (tgt := 344) d_Law_best_337 (by decide) (fun c80 => ?_) (fun c80 => ?_)
    · rw [if_neg c80] at h
      refine gGo_sub [0, 1, 2, 3, 4, 5, 7] rfl ?_
      exact t_Law_best_b344 hl0 hX hY hR (gLe2 hk (Nat.le_of_ble_eq_true rfl)) q79.2 x2 x4 x5 x7 q25.2.1 _ h
    · rw [if_pos c80] at h
      refine g_iconst (v := 1) d_Law_best_340 (by decide) ?_
      refine g_goto (tgt := 345) d_Law_best_341 (by decide) ?_
      refine gGo_sub [0, 1, 2, 3, 4, 5, 7] rfl ?_
      exact t_Law_best_b345 hl0 hX hY hR (gLe2 hk (Nat.le_of_ble_eq_true rfl)) q79.2 x2 x4 x5 x7 q25.2.1 1 _ h
noncomputable def f_Law_best_b149 (M : gMem) (x2 : Int32) (x4 : Int32) (x5 : Int32) (x7 : Int32) : Option (Int32 × gMem) :=
  f_Law_best_b150 M x2 x4 x5 x7 0
theorem t_Law_best_b149 {l : Launch} {ε : gEnv} (hl0 : l.stackTraces = false) (hX : gXw ε) (hY : gXw (swE ε)) {R : Room} {K ka : Nat} (hR : gRm R 0 0 K 156 6144) (hk : ka + 167 ≤ K) (M : gMem) (x2 : Int32) (x4 : Int32) (x5 : Int32) (x7 : Int32) (r : Int32 × gMem) (h : f_Law_best_b149 M x2 x4 x5 x7 = some r) : gGo l ε k_Law_best R (gFk ε K (some (.int r.1)) r.2 ka) 149 [(0, .ref (ε.2.2.1 18 0)), (1, .ref (ε.2.2.1 38 0)), (2, .int x2), (4, .int x4), (5, .int x5), (7, .int x7)] [] M := by
  unfold f_Law_best_b149 at h
  refine g_iconst (v := 0) d_Law_best_149 (by decide) ?_
  exact t_Law_best_b150 hl0 hX hY hR (gLe hk (Nat.le_of_ble_eq_true rfl)) M x2 x4 x5 x7 0 _ h
noncomputable def f_Law_best (M : gMem) (a2 : Int32) : Option (Int32 × gMem) :=
  (f_Law_call M 2 1 0 0).bind fun q1 =>
  if q1.1 = 2 then
    (f_Law_few q1.2).bind fun q2 =>
    if q2.1 ≤ 3 then
      (f_Law_call q2.2 2 2 0 0).bind fun q3 =>
      (f_Law_call q3.2 2 (5 + (gRem q3.1 2)) 0 0).bind fun q4 =>
      (f_Law_call q4.2 2 5 0 0).bind fun q5 =>
      (f_Law_call q5.2 2 6 0 0).bind fun q6 =>
      (f_Law_call q6.2 11 0 0 0).bind fun q7 =>
      (f_Law_call q7.2 11 1 0 0).bind fun q8 =>
      if q7.1 = q8.1 then
        if q7.1 < 0 then
          f_Law_best_b149 q8.2 a2 (gRem q3.1 2) q4.1 q7.1
        else
          if (8 - (q5.1 + q6.1)) < q7.1 then
            f_Law_best_b149 q8.2 a2 (gRem q3.1 2) q4.1 q7.1
          else
            f_Law_best_b150 q8.2 a2 (gRem q3.1 2) q4.1 q7.1 1
      else
        f_Law_best_b149 q8.2 a2 (gRem q3.1 2) q4.1 q7.1
    else
      (f_Law_call q2.2 11 (gRem a2 2) 0 0).bind fun q85 =>
      if q85.1 = (-9999003) then
        (f_Law_call q85.2 12 0 0 0).bind fun q87 =>
        if q87.1 = (-9999003) then
          (gBl 1).bind fun _ =>
          some (1, q87.2)
        else
          (gBl 0).bind fun _ =>
          some (0, q87.2)
      else
        (gBl 0).bind fun _ =>
        some (0, q85.2)
  else
    (gBl 1).bind fun _ =>
    some (1, q1.2)
theorem t_Law_best {l : Launch} {ε : gEnv} (hl0 : l.stackTraces = false) (hX : gXw ε) (hY : gXw (swE ε)) {R : Room} {K ka : Nat} (hR : gRm R 0 0 K 156 6144) (hk : ka + 194 ≤ K) (M : gMem) (a2 : Int32) (r : Int32 × gMem) (h : f_Law_best M a2 = some r) : gGo l ε k_Law_best R (gFk ε K (some (.int r.1)) r.2 ka) 0 [(0, .ref (ε.2.2.1 18 0)), (1, .ref (ε.2.2.1 38 0)), (2, .int a2)] [] M := by
  unfold f_Law_best at h
  refine g_aload_n d_Law_best_0 rfl 0 rfl ?_
  refine g_iconst (v := 2) d_Law_best_1 (by decide) ?_
  refine g_iconst (v := 1) d_Law_best_2 (by decide) ?_
  refine g_iconst (v := 0) d_Law_best_3 (by decide) ?_
  refine g_iconst (v := 0) d_Law_best_4 (by decide) ?_
  obtain ⟨q1, hq1, h⟩ := gOb h
  refine g_callK (kb := (ka + 1)) (As := [.ref (ε.2.2.1 18 0), .int 2, .int 1, .int 0, .int 0]) (rest := []) gTk_ok hR (fun _ => ctk_Law_call hl0 hX M 2 1 0 0 _ hq1) d_Law_best_5 ca_Law_call w_281 rfl rfl (Nat.le_of_ble_eq_true rfl) ⟨(Nat.le_of_ble_eq_true rfl), (Nat.le_of_ble_eq_true rfl)⟩ (Nat.le_refl _) (gLe hk (Nat.le_of_ble_eq_true rfl)) ?_
  refine g_iconst (v := 2) d_Law_best_8 (by decide) ?_
  refine g_icmp_eq (tgt := 14) d_Law_best_9 (by decide) (fun c94 => ?_) (fun c94 => ?_)
  · rw [if_pos c94] at h
    refine g_aload_n d_Law_best_14 rfl 0 rfl ?_
    obtain ⟨q2, hq2, h⟩ := gOb h
    refine g_callK (kb := (ka + 21)) (As := [.ref (ε.2.2.1 18 0)]) (rest := []) gTk_ok hR (fun _ => ctk_Law_few hl0 hX q1.2 _ hq2) d_Law_best_15 ca_Law_few w_965 rfl rfl (Nat.le_of_ble_eq_true rfl) ⟨(Nat.le_of_ble_eq_true rfl), (Nat.le_of_ble_eq_true rfl)⟩ (Nat.le_refl _) (gLe hk (Nat.le_of_ble_eq_true rfl)) ?_
    refine g_istore_n (L' := [(3, .int q2.1), (0, .ref (ε.2.2.1 18 0)), (1, .ref (ε.2.2.1 38 0)), (2, .int a2)]) d_Law_best_18 rfl (by decide) rfl ?_
    refine g_iload_n d_Law_best_19 rfl 0 rfl ?_
    refine g_iconst (v := 3) d_Law_best_20 (by decide) ?_
    refine g_icmp_le (tgt := 60) d_Law_best_21 (by decide) (fun c92 => ?_) (fun c92 => ?_)
    · rw [if_pos c92] at h
      refine g_aload_n d_Law_best_60 rfl 1 rfl ?_
      refine g_iconst (v := 2) d_Law_best_61 (by decide) ?_
      refine g_iconst (v := 2) d_Law_best_62 (by decide) ?_
      refine g_iconst (v := 0) d_Law_best_63 (by decide) ?_
      refine g_iconst (v := 0) d_Law_best_64 (by decide) ?_
      obtain ⟨q3, hq3, h⟩ := gOb h
      refine g_callK (kb := (ka + 22)) (As := [.ref (ε.2.2.1 18 0), .int 2, .int 2, .int 0, .int 0]) (rest := []) gTk_ok hR (fun _ => ctk_Law_call hl0 hX q2.2 2 2 0 0 _ hq3) d_Law_best_65 ca_Law_call w_281 rfl rfl (Nat.le_of_ble_eq_true rfl) ⟨(Nat.le_of_ble_eq_true rfl), (Nat.le_of_ble_eq_true rfl)⟩ (Nat.le_refl _) (gLe hk (Nat.le_of_ble_eq_true rfl)) ?_
      refine g_iconst (v := 2) d_Law_best_68 (by decide) ?_
      refine g_rem d_Law_best_69 (by decide) ?_
      refine g_istore (L' := [(4, .int (gRem q3.1 2)), (3, .int q2.1), (0, .ref (ε.2.2.1 18 0)), (1, .ref (ε.2.2.1 38 0)), (2, .int a2)]) d_Law_best_70 (by decide) rfl ?_
      refine g_aload_n d_Law_best_72 rfl 2 rfl ?_
      refine g_iconst (v := 2) d_Law_best_73 (by decide) ?_
      refine g_iconst (v := 5) d_Law_best_74 (by decide) ?_
      refine g_iload d_Law_best_75 0 rfl ?_
      refine g_iadd d_Law_best_77 ?_
      refine g_iconst (v := 0) d_Law_best_78 (by decide) ?_
      refine g_iconst (v := 0) d_Law_best_79 (by decide) ?_
      obtain ⟨q4, hq4, h⟩ := gOb h
      refine g_callK (kb := (ka + 23)) (As := [.ref (ε.2.2.1 18 0), .int 2, .int (5 + (gRem q3.1 2)), .int 0, .int 0]) (rest := []) gTk_ok hR (fun _ => ctk_Law_call hl0 hX q3.2 2 (5 + (gRem q3.1 2)) 0 0 _ hq4) d_Law_best_80 ca_Law_call w_281 rfl rfl (Nat.le_of_ble_eq_true rfl) ⟨(Nat.le_of_ble_eq_true rfl), (Nat.le_of_ble_eq_true rfl)⟩ (Nat.le_refl _) (gLe hk (Nat.le_of_ble_eq_true rfl)) ?_
      refine g_istore (L' := [(5, .int q4.1), (4, .int (gRem q3.1 2)), (3, .int q2.1), (0, .ref (ε.2.2.1 18 0)), (1, .ref (ε.2.2.1 38 0)), (2, .int a2)]) d_Law_best_83 (by decide) rfl ?_
      refine g_aload_n d_Law_best_85 rfl 3 rfl ?_
      refine g_iconst (v := 2) d_Law_best_86 (by decide) ?_
      refine g_iconst (v := 5) d_Law_best_87 (by decide) ?_
      refine g_iconst (v := 0) d_Law_best_88 (by decide) ?_
      refine g_iconst (v := 0) d_Law_best_89 (by decide) ?_
      obtain ⟨q5, hq5, h⟩ := gOb h
      refine g_callK (kb := (ka + 24)) (As := [.ref (ε.2.2.1 18 0), .int 2, .int 5, .int 0, .int 0]) (rest := []) gTk_ok hR (fun _ => ctk_Law_call hl0 hX q4.2 2 5 0 0 _ hq5) d_Law_best_90 ca_Law_call w_281 rfl rfl (Nat.le_of_ble_eq_true rfl) ⟨(Nat.le_of_ble_eq_true rfl), (Nat.le_of_ble_eq_true rfl)⟩ (Nat.le_refl _) (gLe hk (Nat.le_of_ble_eq_true rfl)) ?_
      refine g_aload_n d_Law_best_93 rfl 3 rfl ?_
      refine g_iconst (v := 2) d_Law_best_94 (by decide) ?_
      refine g_bipush (v := 6) d_Law_best_95 (by decide) ?_
      refine g_iconst (v := 0) d_Law_best_97 (by decide) ?_
      refine g_iconst (v := 0) d_Law_best_98 (by decide) ?_
      obtain ⟨q6, hq6, h⟩ := gOb h
      refine g_callK (kb := (ka + 25)) (As := [.ref (ε.2.2.1 18 0), .int 2, .int 6, .int 0, .int 0]) (rest := [.int q5.1]) gTk_ok hR (fun _ => ctk_Law_call hl0 hX q5.2 2 6 0 0 _ hq6) d_Law_best_99 ca_Law_call w_281 rfl rfl (Nat.le_of_ble_eq_true rfl) ⟨(Nat.le_of_ble_eq_true rfl), (Nat.le_of_ble_eq_true rfl)⟩ (Nat.le_refl _) (gLe hk (Nat.le_of_ble_eq_true rfl)) ?_
      refine g_iadd d_Law_best_102 ?_
      refine g_istore (L' := [(6, .int (q5.1 + q6.1)), (5, .int q4.1), (4, .int (gRem q3.1 2)), (3, .int q2.1), (0, .ref (ε.2.2.1 18 0)), (1, .ref (ε.2.2.1 38 0)), (2, .int a2)]) d_Law_best_103 (by decide) rfl ?_
      refine g_aload_n d_Law_best_105 rfl 4 rfl ?_
      refine g_bipush (v := 11) d_Law_best_106 (by decide) ?_
      refine g_iconst (v := 0) d_Law_best_108 (by decide) ?_
      refine g_iconst (v := 0) d_Law_best_109 (by decide) ?_
      refine g_iconst (v := 0) d_Law_best_110 (by decide) ?_
      obtain ⟨q7, hq7, h⟩ := gOb h
      refine g_callK (kb := (ka + 26)) (As := [.ref (ε.2.2.1 18 0), .int 11, .int 0, .int 0, .int 0]) (rest := []) gTk_ok hR (fun _ => ctk_Law_call hl0 hX q6.2 11 0 0 0 _ hq7) d_Law_best_111 ca_Law_call w_281 rfl rfl (Nat.le_of_ble_eq_true rfl) ⟨(Nat.le_of_ble_eq_true rfl), (Nat.le_of_ble_eq_true rfl)⟩ (Nat.le_refl _) (gLe hk (Nat.le_of_ble_eq_true rfl)) ?_
      refine g_istore (L' := [(7, .int q7.1), (6, .int (q5.1 + q6.1)), (5, .int q4.1), (4, .int (gRem q3.1 2)), (3, .int q2.1), (0, .ref (ε.2.2.1 18 0)), (1, .ref (ε.2.2.1 38 0)), (2, .int a2)]) d_Law_best_114 (by decide) rfl ?_
      refine g_iload d_Law_best_116 0 rfl ?_
      refine g_aload_n d_Law_best_118 rfl 5 rfl ?_
      refine g_bipush (v := 11) d_Law_best_119 (by decide) ?_
      refine g_iconst (v := 1) d_Law_best_121 (by decide) ?_
      refine g_iconst (v := 0) d_Law_best_122 (by decide) ?_
      refine g_iconst (v := 0) d_Law_best_123 (by decide) ?_
      obtain ⟨q8, hq8, h⟩ := gOb h
      refine g_callK (kb := (ka + 27)) (As := [.ref (ε.2.2.1 18 0), .int 11, .int 1, .int 0, .int 0]) (rest := [.int q7.1]) gTk_ok hR (fun _ => ctk_Law_call hl0 hX q7.2 11 1 0 0 _ hq8) d_Law_best_124 ca_Law_call w_281 rfl rfl (Nat.le_of_ble_eq_true rfl) ⟨(Nat.le_of_ble_eq_true rfl), (Nat.le_of_ble_eq_true rfl)⟩ (Nat.le_refl _) (gLe hk (Nat.le_of_ble_eq_true rfl)) ?_
      refine g_icmp_ne (tgt := 149) d_Law_best_127 (by decide) (fun c84 => ?_) (fun c84 => ?_)
      · rw [if_neg c84] at h
        refine gGo_sub [5, 6, 7, 3, 2, 0] rfl ?_
        exact t_Law_best_b149 hl0 hX hY hR (gLe2 hk (Nat.le_of_ble_eq_true rfl)) q8.2 a2 (gRem q3.1 2) q4.1 q7.1 _ h
      · rw [if_pos c84] at h
        refine g_iload d_Law_best_130 0 rfl ?_
        refine g_if_lt (tgt := 149) d_Law_best_132 (by decide) (fun c83 => ?_) (fun c83 => ?_)
        · rw [if_pos c83] at h
          refine gGo_sub [5, 6, 7, 3, 2, 0] rfl ?_
          exact t_Law_best_b149 hl0 hX hY hR (gLe2 hk (Nat.le_of_ble_eq_true rfl)) q8.2 a2 (gRem q3.1 2) q4.1 q7.1 _ h
        · rw [if_neg c83] at h
          refine g_iload d_Law_best_135 0 rfl ?_
          refine g_bipush (v := 8) d_Law_best_137 (by decide) ?_
          refine g_iload d_Law_best_139 1 rfl ?_
          refine g_isub d_Law_best_141 ?_
          refine g_icmp_gt (tgt := 149) d_Law_best_142 (by decide) (fun c82 => ?_) (fun c82 => ?_)
          · rw [if_pos c82] at h
            refine gGo_sub [5, 6, 7, 3, 2, 0] rfl ?_
            exact t_Law_best_b149 hl0 hX hY hR (gLe2 hk (Nat.le_of_ble_eq_true rfl)) q8.2 a2 (gRem q3.1 2) q4.1 q7.1 _ h
          · rw [if_neg c82] at h
            refine g_iconst (v := 1) d_Law_best_145 (by decide) ?_
            refine g_goto (tgt := 150) d_Law_best_146 (by decide) ?_
            refine gGo_sub [5, 6, 7, 3, 2, 0] rfl ?_
            exact t_Law_best_b150 hl0 hX hY hR (gLe2 hk (Nat.le_of_ble_eq_true rfl)) q8.2 a2 (gRem q3.1 2) q4.1 q7.1 1 _ h
    · rw [if_neg c92] at h
      refine g_aload_n d_Law_best_24 rfl 1 rfl ?_
      refine g_bipush (v := 11) d_Law_best_25 (by decide) ?_
      refine g_iload_n d_Law_best_27 rfl 3 rfl ?_
      refine g_iconst (v := 2) d_Law_best_28 (by decide) ?_
      refine g_rem d_Law_best_29 (by decide) ?_
      refine g_iconst (v := 0) d_Law_best_30 (by decide) ?_
      refine g_iconst (v := 0) d_Law_best_31 (by decide) ?_
      obtain ⟨q85, hq85, h⟩ := gOb h
      refine g_callK (kb := (ka + 22)) (As := [.ref (ε.2.2.1 18 0), .int 11, .int (gRem a2 2), .int 0, .int 0]) (rest := []) gTk_ok hR (fun _ => ctk_Law_call hl0 hX q2.2 11 (gRem a2 2) 0 0 _ hq85) d_Law_best_32 ca_Law_call w_281 rfl rfl (Nat.le_of_ble_eq_true rfl) ⟨(Nat.le_of_ble_eq_true rfl), (Nat.le_of_ble_eq_true rfl)⟩ (Nat.le_refl _) (gLe hk (Nat.le_of_ble_eq_true rfl)) ?_
      refine g_ldc d_Law_best_35 w_389 ?_
      refine g_icmp_ne (tgt := 58) d_Law_best_37 (by decide) (fun c91 => ?_) (fun c91 => ?_)
      · rw [if_neg c91] at h
        refine g_iconst (v := 0) d_Law_best_58 (by decide) ?_
        obtain ⟨z86, hz86, h⟩ := gOb h
        obtain rfl := Option.some.inj h
        exact g_zretK hR d_Law_best_59 rfl hz86 (gLe hk (Nat.le_of_ble_eq_true rfl))
      · rw [if_pos c91] at h
        refine g_aload_n d_Law_best_40 rfl 1 rfl ?_
        refine g_bipush (v := 12) d_Law_best_41 (by decide) ?_
        refine g_iconst (v := 0) d_Law_best_43 (by decide) ?_
        refine g_iconst (v := 0) d_Law_best_44 (by decide) ?_
        refine g_iconst (v := 0) d_Law_best_45 (by decide) ?_
        obtain ⟨q87, hq87, h⟩ := gOb h
        refine g_callK (kb := (ka + 23)) (As := [.ref (ε.2.2.1 18 0), .int 12, .int 0, .int 0, .int 0]) (rest := []) gTk_ok hR (fun _ => ctk_Law_call hl0 hX q85.2 12 0 0 0 _ hq87) d_Law_best_46 ca_Law_call w_281 rfl rfl (Nat.le_of_ble_eq_true rfl) ⟨(Nat.le_of_ble_eq_true rfl), (Nat.le_of_ble_eq_true rfl)⟩ (Nat.le_refl _) (gLe hk (Nat.le_of_ble_eq_true rfl)) ?_
        refine g_ldc d_Law_best_49 w_389 ?_
        refine g_icmp_ne (tgt := 58) d_Law_best_51 (by decide) (fun c90 => ?_) (fun c90 => ?_)
        · rw [if_neg c90] at h
          refine g_iconst (v := 0) d_Law_best_58 (by decide) ?_
          obtain ⟨z88, hz88, h⟩ := gOb h
          obtain rfl := Option.some.inj h
          exact g_zretK hR d_Law_best_59 rfl hz88 (gLe hk (Nat.le_of_ble_eq_true rfl))
        · rw [if_pos c90] at h
          refine g_iconst (v := 1) d_Law_best_54 (by decide) ?_
          refine g_goto (tgt := 59) d_Law_best_55 (by decide) ?_
          obtain ⟨z89, hz89, h⟩ := gOb h
          obtain rfl := Option.some.inj h
          exact g_zretK hR d_Law_best_59 rfl hz89 (gLe hk (Nat.le_of_ble_eq_true rfl))
  · rw [if_neg c94] at h
    refine g_iconst (v := 1) d_Law_best_12 (by decide) ?_
    obtain ⟨z93, hz93, h⟩ := gOb h
    obtain rfl := Option.some.inj h
    exact g_zretK hR d_Law_best_13 rfl hz93 (gLe hk (Nat.le_of_ble_eq_true rfl))
theorem ctk_Law_best {l : Launch} {ε : gEnv} (hl0 : l.stackTraces = false) (hX : gXw ε) (hY : gXw (swE ε)) (M : gMem) (a2 : Int32) (r : Int32 × gMem) (h : f_Law_best M a2 = some r) : gCtK l ε k_Law_best 156 6144 194 [.ref (ε.2.2.1 18 0), .ref (ε.2.2.1 38 0), .int a2] M (some (.int r.1)) r.2 :=
  gCtK_of hl0 (by decide) (Nat.le_of_ble_eq_true rfl) rfl (t_Law_best hl0 hX hY (gRm_K _ _ _) (Nat.le_of_eq (Nat.zero_add _)) M a2 r h)
