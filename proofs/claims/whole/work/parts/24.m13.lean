/-! RedSkyModel.learn(IIII)I -/
theorem d_M_learn_0 : decode b_M_learn 0 = .ok (.iload_n 1, 1) := by decide +kernel
theorem d_M_learn_1 : decode b_M_learn 1 = .ok (.invokestatic 155, 3) := by decide +kernel
theorem d_M_learn_4 : decode b_M_learn 4 = .ok (.ifCond .eq (11), 3) := by decide +kernel
theorem d_M_learn_7 : decode b_M_learn 7 = .ok (.aload_n 0, 1) := by decide +kernel
theorem d_M_learn_8 : decode b_M_learn 8 = .ok (.iload_n 2, 1) := by decide +kernel
theorem d_M_learn_9 : decode b_M_learn 9 = .ok (.invokevirtual 306, 3) := by decide +kernel
theorem d_M_learn_12 : decode b_M_learn 12 = .ok (.ifCond .ne (6), 3) := by decide +kernel
theorem d_M_learn_15 : decode b_M_learn 15 = .ok (.bipush (-101), 2) := by decide +kernel
theorem d_M_learn_17 : decode b_M_learn 17 = .ok (.ireturn, 1) := by decide +kernel
theorem d_M_learn_18 : decode b_M_learn 18 = .ok (.iload_n 3, 1) := by decide +kernel
theorem d_M_learn_19 : decode b_M_learn 19 = .ok (.i2l, 1) := by decide +kernel
theorem d_M_learn_20 : decode b_M_learn 20 = .ok (.lconst 0, 1) := by decide +kernel
theorem d_M_learn_21 : decode b_M_learn 21 = .ok (.ldc2_w 151, 3) := by decide +kernel
theorem d_M_learn_24 : decode b_M_learn 24 = .ok (.invokestatic 122, 3) := by decide +kernel
theorem d_M_learn_27 : decode b_M_learn 27 = .ok (.ifCond .eq (16), 3) := by decide +kernel
theorem d_M_learn_30 : decode b_M_learn 30 = .ok (.iload 4, 2) := by decide +kernel
theorem d_M_learn_32 : decode b_M_learn 32 = .ok (.i2l, 1) := by decide +kernel
theorem d_M_learn_33 : decode b_M_learn 33 = .ok (.lconst 0, 1) := by decide +kernel
theorem d_M_learn_34 : decode b_M_learn 34 = .ok (.ldc2_w 352, 3) := by decide +kernel
theorem d_M_learn_37 : decode b_M_learn 37 = .ok (.invokestatic 122, 3) := by decide +kernel
theorem d_M_learn_40 : decode b_M_learn 40 = .ok (.ifCond .ne (6), 3) := by decide +kernel
theorem d_M_learn_43 : decode b_M_learn 43 = .ok (.bipush (-102), 2) := by decide +kernel
theorem d_M_learn_45 : decode b_M_learn 45 = .ok (.ireturn, 1) := by decide +kernel
theorem d_M_learn_46 : decode b_M_learn 46 = .ok (.aload_n 0, 1) := by decide +kernel
theorem d_M_learn_47 : decode b_M_learn 47 = .ok (.getfield 354, 3) := by decide +kernel
theorem d_M_learn_50 : decode b_M_learn 50 = .ok (.bipush (12), 2) := by decide +kernel
theorem d_M_learn_52 : decode b_M_learn 52 = .ok (.if_icmp .ne (6), 3) := by decide +kernel
theorem d_M_learn_55 : decode b_M_learn 55 = .ok (.bipush (-103), 2) := by decide +kernel
theorem d_M_learn_57 : decode b_M_learn 57 = .ok (.ireturn, 1) := by decide +kernel
theorem d_M_learn_58 : decode b_M_learn 58 = .ok (.aload_n 0, 1) := by decide +kernel
theorem d_M_learn_59 : decode b_M_learn 59 = .ok (.dup, 1) := by decide +kernel
theorem d_M_learn_60 : decode b_M_learn 60 = .ok (.getfield 354, 3) := by decide +kernel
theorem d_M_learn_63 : decode b_M_learn 63 = .ok (.iconst 1, 1) := by decide +kernel
theorem d_M_learn_64 : decode b_M_learn 64 = .ok (.iadd, 1) := by decide +kernel
theorem d_M_learn_65 : decode b_M_learn 65 = .ok (.putfield 354, 3) := by decide +kernel
theorem d_M_learn_68 : decode b_M_learn 68 = .ok (.iconst 0, 1) := by decide +kernel
theorem d_M_learn_69 : decode b_M_learn 69 = .ok (.istore 5, 2) := by decide +kernel
theorem d_M_learn_71 : decode b_M_learn 71 = .ok (.iload 5, 2) := by decide +kernel
theorem d_M_learn_73 : decode b_M_learn 73 = .ok (.sipush (1461), 3) := by decide +kernel
theorem d_M_learn_76 : decode b_M_learn 76 = .ok (.if_icmp .ge (92), 3) := by decide +kernel
theorem d_M_learn_79 : decode b_M_learn 79 = .ok (.aload_n 0, 1) := by decide +kernel
theorem d_M_learn_80 : decode b_M_learn 80 = .ok (.getfield 80, 3) := by decide +kernel
theorem d_M_learn_83 : decode b_M_learn 83 = .ok (.iload 5, 2) := by decide +kernel
theorem d_M_learn_85 : decode b_M_learn 85 = .ok (.aload_n 0, 1) := by decide +kernel
theorem d_M_learn_86 : decode b_M_learn 86 = .ok (.iload_n 2, 1) := by decide +kernel
theorem d_M_learn_87 : decode b_M_learn 87 = .ok (.iload_n 1, 1) := by decide +kernel
theorem d_M_learn_88 : decode b_M_learn 88 = .ok (.iload 5, 2) := by decide +kernel
theorem d_M_learn_90 : decode b_M_learn 90 = .ok (.invokevirtual 321, 3) := by decide +kernel
theorem d_M_learn_93 : decode b_M_learn 93 = .ok (.iastore, 1) := by decide +kernel
theorem d_M_learn_94 : decode b_M_learn 94 = .ok (.aload_n 0, 1) := by decide +kernel
theorem d_M_learn_95 : decode b_M_learn 95 = .ok (.getfield 77, 3) := by decide +kernel
theorem d_M_learn_98 : decode b_M_learn 98 = .ok (.iload 5, 2) := by decide +kernel
theorem d_M_learn_100 : decode b_M_learn 100 = .ok (.iconst 0, 1) := by decide +kernel
theorem d_M_learn_101 : decode b_M_learn 101 = .ok (.iastore, 1) := by decide +kernel
theorem d_M_learn_102 : decode b_M_learn 102 = .ok (.iconst 0, 1) := by decide +kernel
theorem d_M_learn_103 : decode b_M_learn 103 = .ok (.istore 6, 2) := by decide +kernel
theorem d_M_learn_105 : decode b_M_learn 105 = .ok (.iload 6, 2) := by decide +kernel
theorem d_M_learn_107 : decode b_M_learn 107 = .ok (.aload_n 0, 1) := by decide +kernel
theorem d_M_learn_108 : decode b_M_learn 108 = .ok (.getfield 294, 3) := by decide +kernel
theorem d_M_learn_111 : decode b_M_learn 111 = .ok (.if_icmp .ge (51), 3) := by decide +kernel
theorem d_M_learn_114 : decode b_M_learn 114 = .ok (.aload_n 0, 1) := by decide +kernel
theorem d_M_learn_115 : decode b_M_learn 115 = .ok (.getfield 77, 3) := by decide +kernel
theorem d_M_learn_118 : decode b_M_learn 118 = .ok (.iload 5, 2) := by decide +kernel
theorem d_M_learn_120 : decode b_M_learn 120 = .ok (.dup2, 1) := by decide +kernel
theorem d_M_learn_121 : decode b_M_learn 121 = .ok (.iaload, 1) := by decide +kernel
theorem d_M_learn_122 : decode b_M_learn 122 = .ok (.aload_n 0, 1) := by decide +kernel
theorem d_M_learn_123 : decode b_M_learn 123 = .ok (.iload 6, 2) := by decide +kernel
theorem d_M_learn_125 : decode b_M_learn 125 = .ok (.iload_n 1, 1) := by decide +kernel
theorem d_M_learn_126 : decode b_M_learn 126 = .ok (.iload 5, 2) := by decide +kernel
theorem d_M_learn_128 : decode b_M_learn 128 = .ok (.invokevirtual 318, 3) := by decide +kernel
theorem d_M_learn_131 : decode b_M_learn 131 = .ok (.iconst 1, 1) := by decide +kernel
theorem d_M_learn_132 : decode b_M_learn 132 = .ok (.if_icmp .ne (21), 3) := by decide +kernel
theorem d_M_learn_135 : decode b_M_learn 135 = .ok (.aload_n 0, 1) := by decide +kernel
theorem d_M_learn_136 : decode b_M_learn 136 = .ok (.iload 6, 2) := by decide +kernel
theorem d_M_learn_138 : decode b_M_learn 138 = .ok (.iload 5, 2) := by decide +kernel
theorem d_M_learn_140 : decode b_M_learn 140 = .ok (.invokevirtual 324, 3) := by decide +kernel
theorem d_M_learn_143 : decode b_M_learn 143 = .ok (.ifCond .eq (10), 3) := by decide +kernel
theorem d_M_learn_146 : decode b_M_learn 146 = .ok (.iconst 1, 1) := by decide +kernel
theorem d_M_learn_147 : decode b_M_learn 147 = .ok (.iload 6, 2) := by decide +kernel
theorem d_M_learn_149 : decode b_M_learn 149 = .ok (.ishl, 1) := by decide +kernel
theorem d_M_learn_150 : decode b_M_learn 150 = .ok (.goto (4), 3) := by decide +kernel
theorem d_M_learn_153 : decode b_M_learn 153 = .ok (.iconst 0, 1) := by decide +kernel
theorem d_M_learn_154 : decode b_M_learn 154 = .ok (.ior, 1) := by decide +kernel
theorem d_M_learn_155 : decode b_M_learn 155 = .ok (.iastore, 1) := by decide +kernel
theorem d_M_learn_156 : decode b_M_learn 156 = .ok (.iinc 6 (1), 3) := by decide +kernel
theorem d_M_learn_159 : decode b_M_learn 159 = .ok (.goto (-54), 3) := by decide +kernel
theorem d_M_learn_162 : decode b_M_learn 162 = .ok (.iinc 5 (1), 3) := by decide +kernel
theorem d_M_learn_165 : decode b_M_learn 165 = .ok (.goto (-94), 3) := by decide +kernel
theorem d_M_learn_168 : decode b_M_learn 168 = .ok (.iconst (-1), 1) := by decide +kernel
theorem d_M_learn_169 : decode b_M_learn 169 = .ok (.istore 5, 2) := by decide +kernel
theorem d_M_learn_171 : decode b_M_learn 171 = .ok (.iconst (-1), 1) := by decide +kernel
theorem d_M_learn_172 : decode b_M_learn 172 = .ok (.istore 6, 2) := by decide +kernel
theorem d_M_learn_174 : decode b_M_learn 174 = .ok (.aload_n 0, 1) := by decide +kernel
theorem d_M_learn_175 : decode b_M_learn 175 = .ok (.iload 4, 2) := by decide +kernel
theorem d_M_learn_177 : decode b_M_learn 177 = .ok (.iconst (-1), 1) := by decide +kernel
theorem d_M_learn_178 : decode b_M_learn 178 = .ok (.iconst (-1), 1) := by decide +kernel
theorem d_M_learn_179 : decode b_M_learn 179 = .ok (.invokevirtual 357, 3) := by decide +kernel
theorem d_M_learn_182 : decode b_M_learn 182 = .ok (.aload_n 0, 1) := by decide +kernel
theorem d_M_learn_183 : decode b_M_learn 183 = .ok (.invokevirtual 361, 3) := by decide +kernel
theorem d_M_learn_186 : decode b_M_learn 186 = .ok (.istore 7, 2) := by decide +kernel
theorem d_M_learn_188 : decode b_M_learn 188 = .ok (.iconst 1, 1) := by decide +kernel
theorem d_M_learn_189 : decode b_M_learn 189 = .ok (.istore 8, 2) := by decide +kernel
theorem d_M_learn_191 : decode b_M_learn 191 = .ok (.iload 8, 2) := by decide +kernel
theorem d_M_learn_193 : decode b_M_learn 193 = .ok (.iload_n 3, 1) := by decide +kernel
theorem d_M_learn_194 : decode b_M_learn 194 = .ok (.if_icmp .gt (105), 3) := by decide +kernel
theorem d_M_learn_197 : decode b_M_learn 197 = .ok (.iconst 0, 1) := by decide +kernel
theorem d_M_learn_198 : decode b_M_learn 198 = .ok (.istore 9, 2) := by decide +kernel
theorem d_M_learn_200 : decode b_M_learn 200 = .ok (.iload 9, 2) := by decide +kernel
theorem d_M_learn_202 : decode b_M_learn 202 = .ok (.aload_n 0, 1) := by decide +kernel
theorem d_M_learn_203 : decode b_M_learn 203 = .ok (.getfield 294, 3) := by decide +kernel
theorem d_M_learn_206 : decode b_M_learn 206 = .ok (.if_icmp .ge (87), 3) := by decide +kernel
theorem d_M_learn_209 : decode b_M_learn 209 = .ok (.iload 8, 2) := by decide +kernel
theorem d_M_learn_211 : decode b_M_learn 211 = .ok (.iconst 1, 1) := by decide +kernel
theorem d_M_learn_212 : decode b_M_learn 212 = .ok (.if_icmp .ne (7), 3) := by decide +kernel
theorem d_M_learn_215 : decode b_M_learn 215 = .ok (.iconst (-1), 1) := by decide +kernel
theorem d_M_learn_216 : decode b_M_learn 216 = .ok (.goto (4), 3) := by decide +kernel
theorem d_M_learn_219 : decode b_M_learn 219 = .ok (.iconst 0, 1) := by decide +kernel
theorem d_M_learn_220 : decode b_M_learn 220 = .ok (.istore 10, 2) := by decide +kernel
theorem d_M_learn_222 : decode b_M_learn 222 = .ok (.iload 10, 2) := by decide +kernel
theorem d_M_learn_224 : decode b_M_learn 224 = .ok (.iload 8, 2) := by decide +kernel
theorem d_M_learn_226 : decode b_M_learn 226 = .ok (.iconst 1, 1) := by decide +kernel
theorem d_M_learn_227 : decode b_M_learn 227 = .ok (.if_icmp .ne (7), 3) := by decide +kernel
theorem d_M_learn_230 : decode b_M_learn 230 = .ok (.iconst 0, 1) := by decide +kernel
theorem d_M_learn_231 : decode b_M_learn 231 = .ok (.goto (7), 3) := by decide +kernel
theorem d_M_learn_234 : decode b_M_learn 234 = .ok (.aload_n 0, 1) := by decide +kernel
theorem d_M_learn_235 : decode b_M_learn 235 = .ok (.getfield 294, 3) := by decide +kernel
theorem d_M_learn_238 : decode b_M_learn 238 = .ok (.if_icmp .ge (49), 3) := by decide +kernel
theorem d_M_learn_241 : decode b_M_learn 241 = .ok (.iload 9, 2) := by decide +kernel
theorem d_M_learn_243 : decode b_M_learn 243 = .ok (.iload 10, 2) := by decide +kernel
theorem d_M_learn_245 : decode b_M_learn 245 = .ok (.if_icmp .eq (36), 3) := by decide +kernel
theorem d_M_learn_248 : decode b_M_learn 248 = .ok (.aload_n 0, 1) := by decide +kernel
theorem d_M_learn_249 : decode b_M_learn 249 = .ok (.iload 4, 2) := by decide +kernel
theorem d_M_learn_251 : decode b_M_learn 251 = .ok (.iload 9, 2) := by decide +kernel
theorem d_M_learn_253 : decode b_M_learn 253 = .ok (.iload 10, 2) := by decide +kernel
theorem d_M_learn_255 : decode b_M_learn 255 = .ok (.invokevirtual 357, 3) := by decide +kernel
theorem d_M_learn_258 : decode b_M_learn 258 = .ok (.aload_n 0, 1) := by decide +kernel
theorem d_M_learn_259 : decode b_M_learn 259 = .ok (.invokevirtual 361, 3) := by decide +kernel
theorem d_M_learn_262 : decode b_M_learn 262 = .ok (.iload 7, 2) := by decide +kernel
theorem d_M_learn_264 : decode b_M_learn 264 = .ok (.if_icmp .le (17), 3) := by decide +kernel
theorem d_M_learn_267 : decode b_M_learn 267 = .ok (.aload_n 0, 1) := by decide +kernel
theorem d_M_learn_268 : decode b_M_learn 268 = .ok (.invokevirtual 361, 3) := by decide +kernel
theorem d_M_learn_271 : decode b_M_learn 271 = .ok (.istore 7, 2) := by decide +kernel
theorem d_M_learn_273 : decode b_M_learn 273 = .ok (.iload 9, 2) := by decide +kernel
theorem d_M_learn_275 : decode b_M_learn 275 = .ok (.istore 5, 2) := by decide +kernel
theorem d_M_learn_277 : decode b_M_learn 277 = .ok (.iload 10, 2) := by decide +kernel
theorem d_M_learn_279 : decode b_M_learn 279 = .ok (.istore 6, 2) := by decide +kernel
theorem d_M_learn_281 : decode b_M_learn 281 = .ok (.iinc 10 (1), 3) := by decide +kernel
theorem d_M_learn_284 : decode b_M_learn 284 = .ok (.goto (-62), 3) := by decide +kernel
theorem d_M_learn_287 : decode b_M_learn 287 = .ok (.iinc 9 (1), 3) := by decide +kernel
theorem d_M_learn_290 : decode b_M_learn 290 = .ok (.goto (-90), 3) := by decide +kernel
theorem d_M_learn_293 : decode b_M_learn 293 = .ok (.iinc 8 (1), 3) := by decide +kernel
theorem d_M_learn_296 : decode b_M_learn 296 = .ok (.goto (-105), 3) := by decide +kernel
theorem d_M_learn_299 : decode b_M_learn 299 = .ok (.aload_n 0, 1) := by decide +kernel
theorem d_M_learn_300 : decode b_M_learn 300 = .ok (.iload 4, 2) := by decide +kernel
theorem d_M_learn_302 : decode b_M_learn 302 = .ok (.iload 5, 2) := by decide +kernel
theorem d_M_learn_304 : decode b_M_learn 304 = .ok (.iload 6, 2) := by decide +kernel
theorem d_M_learn_306 : decode b_M_learn 306 = .ok (.invokevirtual 357, 3) := by decide +kernel
theorem d_M_learn_309 : decode b_M_learn 309 = .ok (.aload_n 0, 1) := by decide +kernel
theorem d_M_learn_310 : decode b_M_learn 310 = .ok (.iconst 1, 1) := by decide +kernel
theorem d_M_learn_311 : decode b_M_learn 311 = .ok (.putfield 364, 3) := by decide +kernel
theorem d_M_learn_314 : decode b_M_learn 314 = .ok (.aload_n 0, 1) := by decide +kernel
theorem d_M_learn_315 : decode b_M_learn 315 = .ok (.iload 5, 2) := by decide +kernel
theorem d_M_learn_317 : decode b_M_learn 317 = .ok (.iconst (-1), 1) := by decide +kernel
theorem d_M_learn_318 : decode b_M_learn 318 = .ok (.if_icmp .ne (7), 3) := by decide +kernel
theorem d_M_learn_321 : decode b_M_learn 321 = .ok (.iconst 0, 1) := by decide +kernel
theorem d_M_learn_322 : decode b_M_learn 322 = .ok (.goto (14), 3) := by decide +kernel
theorem d_M_learn_325 : decode b_M_learn 325 = .ok (.iload 6, 2) := by decide +kernel
theorem d_M_learn_327 : decode b_M_learn 327 = .ok (.iconst (-1), 1) := by decide +kernel
theorem d_M_learn_328 : decode b_M_learn 328 = .ok (.if_icmp .ne (7), 3) := by decide +kernel
theorem d_M_learn_331 : decode b_M_learn 331 = .ok (.iconst 1, 1) := by decide +kernel
theorem d_M_learn_332 : decode b_M_learn 332 = .ok (.goto (4), 3) := by decide +kernel
theorem d_M_learn_335 : decode b_M_learn 335 = .ok (.iconst 2, 1) := by decide +kernel
theorem d_M_learn_336 : decode b_M_learn 336 = .ok (.putfield 367, 3) := by decide +kernel
theorem d_M_learn_339 : decode b_M_learn 339 = .ok (.iconst 2, 1) := by decide +kernel
theorem d_M_learn_340 : decode b_M_learn 340 = .ok (.aload_n 0, 1) := by decide +kernel
theorem d_M_learn_341 : decode b_M_learn 341 = .ok (.getfield 92, 3) := by decide +kernel
theorem d_M_learn_344 : decode b_M_learn 344 = .ok (.iconst 0, 1) := by decide +kernel
theorem d_M_learn_345 : decode b_M_learn 345 = .ok (.iaload, 1) := by decide +kernel
theorem d_M_learn_346 : decode b_M_learn 346 = .ok (.imul, 1) := by decide +kernel
theorem d_M_learn_347 : decode b_M_learn 347 = .ok (.aload_n 0, 1) := by decide +kernel
theorem d_M_learn_348 : decode b_M_learn 348 = .ok (.getfield 89, 3) := by decide +kernel
theorem d_M_learn_351 : decode b_M_learn 351 = .ok (.iconst 0, 1) := by decide +kernel
theorem d_M_learn_352 : decode b_M_learn 352 = .ok (.iaload, 1) := by decide +kernel
theorem d_M_learn_353 : decode b_M_learn 353 = .ok (.if_icmp .le (7), 3) := by decide +kernel
theorem d_M_learn_356 : decode b_M_learn 356 = .ok (.iconst 1, 1) := by decide +kernel
theorem d_M_learn_357 : decode b_M_learn 357 = .ok (.goto (4), 3) := by decide +kernel
theorem d_M_learn_360 : decode b_M_learn 360 = .ok (.iconst 0, 1) := by decide +kernel
theorem d_M_learn_361 : decode b_M_learn 361 = .ok (.istore 8, 2) := by decide +kernel
theorem d_M_learn_363 : decode b_M_learn 363 = .ok (.iconst 2, 1) := by decide +kernel
theorem d_M_learn_364 : decode b_M_learn 364 = .ok (.aload_n 0, 1) := by decide +kernel
theorem d_M_learn_365 : decode b_M_learn 365 = .ok (.getfield 92, 3) := by decide +kernel
theorem d_M_learn_368 : decode b_M_learn 368 = .ok (.iconst 1, 1) := by decide +kernel
theorem d_M_learn_369 : decode b_M_learn 369 = .ok (.iaload, 1) := by decide +kernel
theorem d_M_learn_370 : decode b_M_learn 370 = .ok (.imul, 1) := by decide +kernel
theorem d_M_learn_371 : decode b_M_learn 371 = .ok (.aload_n 0, 1) := by decide +kernel
theorem d_M_learn_372 : decode b_M_learn 372 = .ok (.getfield 89, 3) := by decide +kernel
theorem d_M_learn_375 : decode b_M_learn 375 = .ok (.iconst 1, 1) := by decide +kernel
theorem d_M_learn_376 : decode b_M_learn 376 = .ok (.iaload, 1) := by decide +kernel
theorem d_M_learn_377 : decode b_M_learn 377 = .ok (.if_icmp .le (7), 3) := by decide +kernel
theorem d_M_learn_380 : decode b_M_learn 380 = .ok (.iconst 1, 1) := by decide +kernel
theorem d_M_learn_381 : decode b_M_learn 381 = .ok (.goto (4), 3) := by decide +kernel
theorem d_M_learn_384 : decode b_M_learn 384 = .ok (.iconst 0, 1) := by decide +kernel
theorem d_M_learn_385 : decode b_M_learn 385 = .ok (.istore 9, 2) := by decide +kernel
theorem d_M_learn_387 : decode b_M_learn 387 = .ok (.iconst 2, 1) := by decide +kernel
theorem d_M_learn_388 : decode b_M_learn 388 = .ok (.aload_n 0, 1) := by decide +kernel
theorem d_M_learn_389 : decode b_M_learn 389 = .ok (.getfield 92, 3) := by decide +kernel
theorem d_M_learn_392 : decode b_M_learn 392 = .ok (.iconst 2, 1) := by decide +kernel
theorem d_M_learn_393 : decode b_M_learn 393 = .ok (.iaload, 1) := by decide +kernel
theorem d_M_learn_394 : decode b_M_learn 394 = .ok (.imul, 1) := by decide +kernel
theorem d_M_learn_395 : decode b_M_learn 395 = .ok (.aload_n 0, 1) := by decide +kernel
theorem d_M_learn_396 : decode b_M_learn 396 = .ok (.getfield 89, 3) := by decide +kernel
theorem d_M_learn_399 : decode b_M_learn 399 = .ok (.iconst 2, 1) := by decide +kernel
theorem d_M_learn_400 : decode b_M_learn 400 = .ok (.iaload, 1) := by decide +kernel
theorem d_M_learn_401 : decode b_M_learn 401 = .ok (.if_icmp .le (7), 3) := by decide +kernel
theorem d_M_learn_404 : decode b_M_learn 404 = .ok (.iconst 1, 1) := by decide +kernel
theorem d_M_learn_405 : decode b_M_learn 405 = .ok (.goto (4), 3) := by decide +kernel
theorem d_M_learn_408 : decode b_M_learn 408 = .ok (.iconst 0, 1) := by decide +kernel
theorem d_M_learn_409 : decode b_M_learn 409 = .ok (.istore 10, 2) := by decide +kernel
theorem d_M_learn_411 : decode b_M_learn 411 = .ok (.aload_n 0, 1) := by decide +kernel
theorem d_M_learn_412 : decode b_M_learn 412 = .ok (.getfield 83, 3) := by decide +kernel
theorem d_M_learn_415 : decode b_M_learn 415 = .ok (.iconst 0, 1) := by decide +kernel
theorem d_M_learn_416 : decode b_M_learn 416 = .ok (.iconst 2, 1) := by decide +kernel
theorem d_M_learn_417 : decode b_M_learn 417 = .ok (.iload 5, 2) := by decide +kernel
theorem d_M_learn_419 : decode b_M_learn 419 = .ok (.imul, 1) := by decide +kernel
theorem d_M_learn_420 : decode b_M_learn 420 = .ok (.iload 8, 2) := by decide +kernel
theorem d_M_learn_422 : decode b_M_learn 422 = .ok (.iadd, 1) := by decide +kernel
theorem d_M_learn_423 : decode b_M_learn 423 = .ok (.iastore, 1) := by decide +kernel
theorem d_M_learn_424 : decode b_M_learn 424 = .ok (.aload_n 0, 1) := by decide +kernel
theorem d_M_learn_425 : decode b_M_learn 425 = .ok (.getfield 83, 3) := by decide +kernel
theorem d_M_learn_428 : decode b_M_learn 428 = .ok (.iconst 1, 1) := by decide +kernel
theorem d_M_learn_429 : decode b_M_learn 429 = .ok (.iconst 2, 1) := by decide +kernel
theorem d_M_learn_430 : decode b_M_learn 430 = .ok (.iload 6, 2) := by decide +kernel
theorem d_M_learn_432 : decode b_M_learn 432 = .ok (.imul, 1) := by decide +kernel
theorem d_M_learn_433 : decode b_M_learn 433 = .ok (.iload 9, 2) := by decide +kernel
theorem d_M_learn_435 : decode b_M_learn 435 = .ok (.iadd, 1) := by decide +kernel
theorem d_M_learn_436 : decode b_M_learn 436 = .ok (.iastore, 1) := by decide +kernel
theorem d_M_learn_437 : decode b_M_learn 437 = .ok (.aload_n 0, 1) := by decide +kernel
theorem d_M_learn_438 : decode b_M_learn 438 = .ok (.getfield 86, 3) := by decide +kernel
theorem d_M_learn_441 : decode b_M_learn 441 = .ok (.iconst 0, 1) := by decide +kernel
theorem d_M_learn_442 : decode b_M_learn 442 = .ok (.iload 10, 2) := by decide +kernel
theorem d_M_learn_444 : decode b_M_learn 444 = .ok (.iastore, 1) := by decide +kernel
theorem d_M_learn_445 : decode b_M_learn 445 = .ok (.aload_n 0, 1) := by decide +kernel
theorem d_M_learn_446 : decode b_M_learn 446 = .ok (.getfield 86, 3) := by decide +kernel
theorem d_M_learn_449 : decode b_M_learn 449 = .ok (.iconst 1, 1) := by decide +kernel
theorem d_M_learn_450 : decode b_M_learn 450 = .ok (.aload_n 0, 1) := by decide +kernel
theorem d_M_learn_451 : decode b_M_learn 451 = .ok (.getfield 367, 3) := by decide +kernel
theorem d_M_learn_454 : decode b_M_learn 454 = .ok (.iastore, 1) := by decide +kernel
theorem d_M_learn_455 : decode b_M_learn 455 = .ok (.aload_n 0, 1) := by decide +kernel
theorem d_M_learn_456 : decode b_M_learn 456 = .ok (.getfield 86, 3) := by decide +kernel
theorem d_M_learn_459 : decode b_M_learn 459 = .ok (.iconst 2, 1) := by decide +kernel
theorem d_M_learn_460 : decode b_M_learn 460 = .ok (.aload_n 0, 1) := by decide +kernel
theorem d_M_learn_461 : decode b_M_learn 461 = .ok (.getfield 89, 3) := by decide +kernel
theorem d_M_learn_464 : decode b_M_learn 464 = .ok (.iconst 0, 1) := by decide +kernel
theorem d_M_learn_465 : decode b_M_learn 465 = .ok (.iaload, 1) := by decide +kernel
theorem d_M_learn_466 : decode b_M_learn 466 = .ok (.aload_n 0, 1) := by decide +kernel
theorem d_M_learn_467 : decode b_M_learn 467 = .ok (.getfield 89, 3) := by decide +kernel
theorem d_M_learn_470 : decode b_M_learn 470 = .ok (.iconst 1, 1) := by decide +kernel
theorem d_M_learn_471 : decode b_M_learn 471 = .ok (.iaload, 1) := by decide +kernel
theorem d_M_learn_472 : decode b_M_learn 472 = .ok (.iadd, 1) := by decide +kernel
theorem d_M_learn_473 : decode b_M_learn 473 = .ok (.aload_n 0, 1) := by decide +kernel
theorem d_M_learn_474 : decode b_M_learn 474 = .ok (.getfield 89, 3) := by decide +kernel
theorem d_M_learn_477 : decode b_M_learn 477 = .ok (.iconst 2, 1) := by decide +kernel
theorem d_M_learn_478 : decode b_M_learn 478 = .ok (.iaload, 1) := by decide +kernel
theorem d_M_learn_479 : decode b_M_learn 479 = .ok (.iadd, 1) := by decide +kernel
theorem d_M_learn_480 : decode b_M_learn 480 = .ok (.iastore, 1) := by decide +kernel
theorem d_M_learn_481 : decode b_M_learn 481 = .ok (.aload_n 0, 1) := by decide +kernel
theorem d_M_learn_482 : decode b_M_learn 482 = .ok (.getfield 86, 3) := by decide +kernel
theorem d_M_learn_485 : decode b_M_learn 485 = .ok (.iconst 3, 1) := by decide +kernel
theorem d_M_learn_486 : decode b_M_learn 486 = .ok (.iload 7, 2) := by decide +kernel
theorem d_M_learn_488 : decode b_M_learn 488 = .ok (.iastore, 1) := by decide +kernel
theorem d_M_learn_489 : decode b_M_learn 489 = .ok (.aload_n 0, 1) := by decide +kernel
theorem d_M_learn_490 : decode b_M_learn 490 = .ok (.bipush (15), 2) := by decide +kernel
theorem d_M_learn_492 : decode b_M_learn 492 = .ok (.iload 4, 2) := by decide +kernel
theorem d_M_learn_494 : decode b_M_learn 494 = .ok (.isub, 1) := by decide +kernel
theorem d_M_learn_495 : decode b_M_learn 495 = .ok (.iload 5, 2) := by decide +kernel
theorem d_M_learn_497 : decode b_M_learn 497 = .ok (.iload 6, 2) := by decide +kernel
theorem d_M_learn_499 : decode b_M_learn 499 = .ok (.invokevirtual 357, 3) := by decide +kernel
theorem d_M_learn_502 : decode b_M_learn 502 = .ok (.aload_n 0, 1) := by decide +kernel
theorem d_M_learn_503 : decode b_M_learn 503 = .ok (.getfield 86, 3) := by decide +kernel
theorem d_M_learn_506 : decode b_M_learn 506 = .ok (.iconst 4, 1) := by decide +kernel
theorem d_M_learn_507 : decode b_M_learn 507 = .ok (.aload_n 0, 1) := by decide +kernel
theorem d_M_learn_508 : decode b_M_learn 508 = .ok (.getfield 89, 3) := by decide +kernel
theorem d_M_learn_511 : decode b_M_learn 511 = .ok (.iconst 0, 1) := by decide +kernel
theorem d_M_learn_512 : decode b_M_learn 512 = .ok (.iaload, 1) := by decide +kernel
theorem d_M_learn_513 : decode b_M_learn 513 = .ok (.aload_n 0, 1) := by decide +kernel
theorem d_M_learn_514 : decode b_M_learn 514 = .ok (.getfield 89, 3) := by decide +kernel
theorem d_M_learn_517 : decode b_M_learn 517 = .ok (.iconst 1, 1) := by decide +kernel
theorem d_M_learn_518 : decode b_M_learn 518 = .ok (.iaload, 1) := by decide +kernel
theorem d_M_learn_519 : decode b_M_learn 519 = .ok (.iadd, 1) := by decide +kernel
theorem d_M_learn_520 : decode b_M_learn 520 = .ok (.aload_n 0, 1) := by decide +kernel
theorem d_M_learn_521 : decode b_M_learn 521 = .ok (.getfield 89, 3) := by decide +kernel
theorem d_M_learn_524 : decode b_M_learn 524 = .ok (.iconst 2, 1) := by decide +kernel
theorem d_M_learn_525 : decode b_M_learn 525 = .ok (.iaload, 1) := by decide +kernel
theorem d_M_learn_526 : decode b_M_learn 526 = .ok (.iadd, 1) := by decide +kernel
theorem d_M_learn_527 : decode b_M_learn 527 = .ok (.iastore, 1) := by decide +kernel
theorem d_M_learn_528 : decode b_M_learn 528 = .ok (.aload_n 0, 1) := by decide +kernel
theorem d_M_learn_529 : decode b_M_learn 529 = .ok (.getfield 86, 3) := by decide +kernel
theorem d_M_learn_532 : decode b_M_learn 532 = .ok (.iconst 5, 1) := by decide +kernel
theorem d_M_learn_533 : decode b_M_learn 533 = .ok (.iload 8, 2) := by decide +kernel
theorem d_M_learn_535 : decode b_M_learn 535 = .ok (.iconst 1, 1) := by decide +kernel
theorem d_M_learn_536 : decode b_M_learn 536 = .ok (.if_icmp .ne (12), 3) := by decide +kernel
theorem d_M_learn_539 : decode b_M_learn 539 = .ok (.aload_n 0, 1) := by decide +kernel
theorem d_M_learn_540 : decode b_M_learn 540 = .ok (.getfield 92, 3) := by decide +kernel
theorem d_M_learn_543 : decode b_M_learn 543 = .ok (.iconst 0, 1) := by decide +kernel
theorem d_M_learn_544 : decode b_M_learn 544 = .ok (.iaload, 1) := by decide +kernel
theorem d_M_learn_545 : decode b_M_learn 545 = .ok (.goto (16), 3) := by decide +kernel
theorem d_M_learn_548 : decode b_M_learn 548 = .ok (.aload_n 0, 1) := by decide +kernel
theorem d_M_learn_549 : decode b_M_learn 549 = .ok (.getfield 89, 3) := by decide +kernel
theorem d_M_learn_552 : decode b_M_learn 552 = .ok (.iconst 0, 1) := by decide +kernel
theorem d_M_learn_553 : decode b_M_learn 553 = .ok (.iaload, 1) := by decide +kernel
theorem d_M_learn_554 : decode b_M_learn 554 = .ok (.aload_n 0, 1) := by decide +kernel
theorem d_M_learn_555 : decode b_M_learn 555 = .ok (.getfield 92, 3) := by decide +kernel
theorem d_M_learn_558 : decode b_M_learn 558 = .ok (.iconst 0, 1) := by decide +kernel
theorem d_M_learn_559 : decode b_M_learn 559 = .ok (.iaload, 1) := by decide +kernel
theorem d_M_learn_560 : decode b_M_learn 560 = .ok (.isub, 1) := by decide +kernel
theorem d_M_learn_561 : decode b_M_learn 561 = .ok (.iload 9, 2) := by decide +kernel
theorem d_M_learn_563 : decode b_M_learn 563 = .ok (.iconst 1, 1) := by decide +kernel
theorem d_M_learn_564 : decode b_M_learn 564 = .ok (.if_icmp .ne (12), 3) := by decide +kernel
theorem d_M_learn_567 : decode b_M_learn 567 = .ok (.aload_n 0, 1) := by decide +kernel
theorem d_M_learn_568 : decode b_M_learn 568 = .ok (.getfield 92, 3) := by decide +kernel
theorem d_M_learn_571 : decode b_M_learn 571 = .ok (.iconst 1, 1) := by decide +kernel
theorem d_M_learn_572 : decode b_M_learn 572 = .ok (.iaload, 1) := by decide +kernel
theorem d_M_learn_573 : decode b_M_learn 573 = .ok (.goto (16), 3) := by decide +kernel
theorem d_M_learn_576 : decode b_M_learn 576 = .ok (.aload_n 0, 1) := by decide +kernel
theorem d_M_learn_577 : decode b_M_learn 577 = .ok (.getfield 89, 3) := by decide +kernel
theorem d_M_learn_580 : decode b_M_learn 580 = .ok (.iconst 1, 1) := by decide +kernel
theorem d_M_learn_581 : decode b_M_learn 581 = .ok (.iaload, 1) := by decide +kernel
theorem d_M_learn_582 : decode b_M_learn 582 = .ok (.aload_n 0, 1) := by decide +kernel
theorem d_M_learn_583 : decode b_M_learn 583 = .ok (.getfield 92, 3) := by decide +kernel
theorem d_M_learn_586 : decode b_M_learn 586 = .ok (.iconst 1, 1) := by decide +kernel
theorem d_M_learn_587 : decode b_M_learn 587 = .ok (.iaload, 1) := by decide +kernel
theorem d_M_learn_588 : decode b_M_learn 588 = .ok (.isub, 1) := by decide +kernel
theorem d_M_learn_589 : decode b_M_learn 589 = .ok (.iadd, 1) := by decide +kernel
theorem d_M_learn_590 : decode b_M_learn 590 = .ok (.iload 10, 2) := by decide +kernel
theorem d_M_learn_592 : decode b_M_learn 592 = .ok (.iconst 1, 1) := by decide +kernel
theorem d_M_learn_593 : decode b_M_learn 593 = .ok (.if_icmp .ne (12), 3) := by decide +kernel
theorem d_M_learn_596 : decode b_M_learn 596 = .ok (.aload_n 0, 1) := by decide +kernel
theorem d_M_learn_597 : decode b_M_learn 597 = .ok (.getfield 92, 3) := by decide +kernel
theorem d_M_learn_600 : decode b_M_learn 600 = .ok (.iconst 2, 1) := by decide +kernel
theorem d_M_learn_601 : decode b_M_learn 601 = .ok (.iaload, 1) := by decide +kernel
theorem d_M_learn_602 : decode b_M_learn 602 = .ok (.goto (16), 3) := by decide +kernel
theorem d_M_learn_605 : decode b_M_learn 605 = .ok (.aload_n 0, 1) := by decide +kernel
theorem d_M_learn_606 : decode b_M_learn 606 = .ok (.getfield 89, 3) := by decide +kernel
theorem d_M_learn_609 : decode b_M_learn 609 = .ok (.iconst 2, 1) := by decide +kernel
theorem d_M_learn_610 : decode b_M_learn 610 = .ok (.iaload, 1) := by decide +kernel
theorem d_M_learn_611 : decode b_M_learn 611 = .ok (.aload_n 0, 1) := by decide +kernel
theorem d_M_learn_612 : decode b_M_learn 612 = .ok (.getfield 92, 3) := by decide +kernel
theorem d_M_learn_615 : decode b_M_learn 615 = .ok (.iconst 2, 1) := by decide +kernel
theorem d_M_learn_616 : decode b_M_learn 616 = .ok (.iaload, 1) := by decide +kernel
theorem d_M_learn_617 : decode b_M_learn 617 = .ok (.isub, 1) := by decide +kernel
theorem d_M_learn_618 : decode b_M_learn 618 = .ok (.iadd, 1) := by decide +kernel
theorem d_M_learn_619 : decode b_M_learn 619 = .ok (.iastore, 1) := by decide +kernel
theorem d_M_learn_620 : decode b_M_learn 620 = .ok (.iload 7, 2) := by decide +kernel
theorem d_M_learn_622 : decode b_M_learn 622 = .ok (.ireturn, 1) := by decide +kernel
def F_M_learn_589 (a0 : Nat) (x7 : Int32) (x10 : Int32) (s3 : Int32) (s2 : Int32) (s1 : Int32) (s0 : Nat) (w : AW) : Option (Int32 × AW) :=
  if x10 = (1 : Int32) then
    gd (wk w a0 == 13) <|
    gd (wk w (wr w a0 48) == 100) <|
    gd (inb (2 : Int32) (wn w (wr w a0 48))) <|
    gd (wk w s0 == 100) <|
    gd (inb s1 (wn w s0)) <|
    let w14 : AW := upI w s0 (Int32.toNatClampNeg s1) ((s2 + s3) + (wi w (wr w a0 48) (Int32.toNatClampNeg (2 : Int32))))
    some (x7, w14)
  else
    gd (wk w a0 == 13) <|
    gd (wk w (wr w a0 47) == 100) <|
    gd (inb (2 : Int32) (wn w (wr w a0 47))) <|
    gd (wk w (wr w a0 48) == 100) <|
    gd (inb (2 : Int32) (wn w (wr w a0 48))) <|
    gd (wk w s0 == 100) <|
    gd (inb s1 (wn w s0)) <|
    let w8 : AW := upI w s0 (Int32.toNatClampNeg s1) ((s2 + s3) + ((wi w (wr w a0 47) (Int32.toNatClampNeg (2 : Int32))) - (wi w (wr w a0 48) (Int32.toNatClampNeg (2 : Int32)))))
    some (x7, w8)
theorem P_M_learn_589 {X : AX} {l : Launch} {G : AG} (hX : XOK X b_M_learn "RedSkyModel" 11) (hM : XM X l G { frames := 6, cells := 0, slots := 0, locals := 140 }) {o : Int32 × AW} (hR : XR X (some .int) 0 0 (some (vi o.1)) o.2) (a0 : Nat) (x7 : Int32) (x10 : Int32) (s3 : Int32) (s2 : Int32) (s1 : Int32) (s0 : Nat) (w : AW) (h : F_M_learn_589 a0 x7 x10 s3 s2 s1 s0 w = some o) : RJ X 11 0 0 589 [(0, vr a0), (7, vi x7), (10, vi x10)] [vi s3, vi s2, vi s1, vr s0] w := by
  unfold F_M_learn_589 at h
  refine r_iadd hX d_M_learn_589 ?_
  refine r_iload (i := 10) hX d_M_learn_590 2  rfl ?_
  refine r_iconst (v := (1 : Int32)) hX d_M_learn_592 rfl ?_
  refine r_icmp_ne hX d_M_learn_593 rfl h (fun h => ?_) (fun h => ?_)
  · refine r_aload_n (i := 0) hX d_M_learn_605 0 rfl rfl ?_
    obtain ⟨hk1, h⟩ := gd_e h
    refine r_getR (i := 12) (f := 47) hX ci_12 (by decide) rfl fl_M_89 hk1 d_M_learn_606 ?_
    refine r_iconst (v := (2 : Int32)) hX d_M_learn_609 rfl ?_
    obtain ⟨hk2, h⟩ := gd_e h
    obtain ⟨hg3, h⟩ := gd_e h
    refine r_iald hX hk2 hg3 d_M_learn_610 ?_
    refine r_aload_n (i := 0) hX d_M_learn_611 0 rfl rfl ?_
    refine r_getR (i := 12) (f := 48) hX ci_12 (by decide) rfl fl_M_92 hk1 d_M_learn_612 ?_
    refine r_iconst (v := (2 : Int32)) hX d_M_learn_615 rfl ?_
    obtain ⟨hk4, h⟩ := gd_e h
    obtain ⟨hg5, h⟩ := gd_e h
    refine r_iald hX hk4 hg5 d_M_learn_616 ?_
    refine r_isub hX d_M_learn_617 ?_
    refine r_iadd hX d_M_learn_618 ?_
    obtain ⟨hk6, h⟩ := gd_e h
    obtain ⟨hg7, h⟩ := gd_e h
    refine r_iast hX hk6 hg7 d_M_learn_619 ?_
    refine r_iload (i := 7) hX d_M_learn_620 1  rfl ?_
    cases h; exact r_iret hX hR d_M_learn_622
  · refine r_aload_n (i := 0) hX d_M_learn_596 0 rfl rfl ?_
    obtain ⟨hk9, h⟩ := gd_e h
    refine r_getR (i := 12) (f := 48) hX ci_12 (by decide) rfl fl_M_92 hk9 d_M_learn_597 ?_
    refine r_iconst (v := (2 : Int32)) hX d_M_learn_600 rfl ?_
    obtain ⟨hk10, h⟩ := gd_e h
    obtain ⟨hg11, h⟩ := gd_e h
    refine r_iald hX hk10 hg11 d_M_learn_601 ?_
    refine r_goto hX d_M_learn_602 rfl ?_
    refine r_iadd hX d_M_learn_618 ?_
    obtain ⟨hk12, h⟩ := gd_e h
    obtain ⟨hg13, h⟩ := gd_e h
    refine r_iast hX hk12 hg13 d_M_learn_619 ?_
    refine r_iload (i := 7) hX d_M_learn_620 1  rfl ?_
    cases h; exact r_iret hX hR d_M_learn_622
def F_M_learn_561 (a0 : Nat) (x7 : Int32) (x9 : Int32) (x10 : Int32) (s2 : Int32) (s1 : Int32) (s0 : Nat) (w : AW) : Option (Int32 × AW) :=
  if x9 = (1 : Int32) then
    gd (wk w a0 == 13) <|
    gd (wk w (wr w a0 48) == 100) <|
    gd (inb (1 : Int32) (wn w (wr w a0 48))) <|
    F_M_learn_589 a0 x7 x10 (wi w (wr w a0 48) (Int32.toNatClampNeg (1 : Int32))) s2 s1 s0 w
  else
    gd (wk w a0 == 13) <|
    gd (wk w (wr w a0 47) == 100) <|
    gd (inb (1 : Int32) (wn w (wr w a0 47))) <|
    gd (wk w (wr w a0 48) == 100) <|
    gd (inb (1 : Int32) (wn w (wr w a0 48))) <|
    F_M_learn_589 a0 x7 x10 ((wi w (wr w a0 47) (Int32.toNatClampNeg (1 : Int32))) - (wi w (wr w a0 48) (Int32.toNatClampNeg (1 : Int32)))) s2 s1 s0 w
theorem P_M_learn_561 {X : AX} {l : Launch} {G : AG} (hX : XOK X b_M_learn "RedSkyModel" 11) (hM : XM X l G { frames := 6, cells := 0, slots := 0, locals := 140 }) {o : Int32 × AW} (hR : XR X (some .int) 0 0 (some (vi o.1)) o.2) (a0 : Nat) (x7 : Int32) (x9 : Int32) (x10 : Int32) (s2 : Int32) (s1 : Int32) (s0 : Nat) (w : AW) (h : F_M_learn_561 a0 x7 x9 x10 s2 s1 s0 w = some o) : RJ X 11 0 0 561 [(0, vr a0), (7, vi x7), (9, vi x9), (10, vi x10)] [vi s2, vi s1, vr s0] w := by
  unfold F_M_learn_561 at h
  refine r_iload (i := 9) hX d_M_learn_561 2  rfl ?_
  refine r_iconst (v := (1 : Int32)) hX d_M_learn_563 rfl ?_
  refine r_icmp_ne hX d_M_learn_564 rfl h (fun h => ?_) (fun h => ?_)
  · refine r_aload_n (i := 0) hX d_M_learn_576 0 rfl rfl ?_
    obtain ⟨hk1, h⟩ := gd_e h
    refine r_getR (i := 12) (f := 47) hX ci_12 (by decide) rfl fl_M_89 hk1 d_M_learn_577 ?_
    refine r_iconst (v := (1 : Int32)) hX d_M_learn_580 rfl ?_
    obtain ⟨hk2, h⟩ := gd_e h
    obtain ⟨hg3, h⟩ := gd_e h
    refine r_iald hX hk2 hg3 d_M_learn_581 ?_
    refine r_aload_n (i := 0) hX d_M_learn_582 0 rfl rfl ?_
    refine r_getR (i := 12) (f := 48) hX ci_12 (by decide) rfl fl_M_92 hk1 d_M_learn_583 ?_
    refine r_iconst (v := (1 : Int32)) hX d_M_learn_586 rfl ?_
    obtain ⟨hk4, h⟩ := gd_e h
    obtain ⟨hg5, h⟩ := gd_e h
    refine r_iald hX hk4 hg5 d_M_learn_587 ?_
    refine r_isub hX d_M_learn_588 ?_
    exact rj_sub [0, 1, 3] rfl (P_M_learn_589 hX hM hR _ _ _ _ _ _ _ _ h)
  · refine r_aload_n (i := 0) hX d_M_learn_567 0 rfl rfl ?_
    obtain ⟨hk6, h⟩ := gd_e h
    refine r_getR (i := 12) (f := 48) hX ci_12 (by decide) rfl fl_M_92 hk6 d_M_learn_568 ?_
    refine r_iconst (v := (1 : Int32)) hX d_M_learn_571 rfl ?_
    obtain ⟨hk7, h⟩ := gd_e h
    obtain ⟨hg8, h⟩ := gd_e h
    refine r_iald hX hk7 hg8 d_M_learn_572 ?_
    refine r_goto hX d_M_learn_573 rfl ?_
    exact rj_sub [0, 1, 3] rfl (P_M_learn_589 hX hM hR _ _ _ _ _ _ _ _ h)
def F_M_learn_409 (a0 : Nat) (x4 : Int32) (x5 : Int32) (x6 : Int32) (x7 : Int32) (x8 : Int32) (x9 : Int32) (s0 : Int32) (w : AW) : Option (Int32 × AW) :=
  gd (wk w a0 == 13) <|
  gd (wk w (wr w a0 44) == 100) <|
  gd (inb (0 : Int32) (wn w (wr w a0 44))) <|
  let w4 : AW := upI w (wr w a0 44) (Int32.toNatClampNeg (0 : Int32)) (((2 : Int32) * x5) + x8)
  gd (wk w4 (wr w4 a0 44) == 100) <|
  gd (inb (1 : Int32) (wn w4 (wr w4 a0 44))) <|
  let w7 : AW := upI w4 (wr w4 a0 44) (Int32.toNatClampNeg (1 : Int32)) (((2 : Int32) * x6) + x9)
  gd (wk w7 (wr w7 a0 46) == 100) <|
  gd (inb (0 : Int32) (wn w7 (wr w7 a0 46))) <|
  let w10 : AW := upI w7 (wr w7 a0 46) (Int32.toNatClampNeg (0 : Int32)) s0
  gd (wk w10 (wr w10 a0 46) == 100) <|
  gd (inb (1 : Int32) (wn w10 (wr w10 a0 46))) <|
  let w13 : AW := upI w10 (wr w10 a0 46) (Int32.toNatClampNeg (1 : Int32)) (wi w10 a0 45)
  gd (wk w13 (wr w13 a0 47) == 100) <|
  gd (inb (0 : Int32) (wn w13 (wr w13 a0 47))) <|
  gd (inb (1 : Int32) (wn w13 (wr w13 a0 47))) <|
  gd (inb (2 : Int32) (wn w13 (wr w13 a0 47))) <|
  gd (wk w13 (wr w13 a0 46) == 100) <|
  gd (inb (2 : Int32) (wn w13 (wr w13 a0 46))) <|
  let w20 : AW := upI w13 (wr w13 a0 46) (Int32.toNatClampNeg (2 : Int32)) (((wi w13 (wr w13 a0 47) (Int32.toNatClampNeg (0 : Int32))) + (wi w13 (wr w13 a0 47) (Int32.toNatClampNeg (1 : Int32)))) + (wi w13 (wr w13 a0 47) (Int32.toNatClampNeg (2 : Int32))))
  gd (wk w20 (wr w20 a0 46) == 100) <|
  gd (inb (3 : Int32) (wn w20 (wr w20 a0 46))) <|
  let w23 : AW := upI w20 (wr w20 a0 46) (Int32.toNatClampNeg (3 : Int32)) x7
  (F_M_countBy a0 ((15 : Int32) - x4) x5 x6 w23).bind fun r24 =>
  gd (wk r24 a0 == 13) <|
  gd (wk r24 (wr r24 a0 47) == 100) <|
  gd (inb (0 : Int32) (wn r24 (wr r24 a0 47))) <|
  gd (inb (1 : Int32) (wn r24 (wr r24 a0 47))) <|
  gd (inb (2 : Int32) (wn r24 (wr r24 a0 47))) <|
  gd (wk r24 (wr r24 a0 46) == 100) <|
  gd (inb (4 : Int32) (wn r24 (wr r24 a0 46))) <|
  let w33 : AW := upI r24 (wr r24 a0 46) (Int32.toNatClampNeg (4 : Int32)) (((wi r24 (wr r24 a0 47) (Int32.toNatClampNeg (0 : Int32))) + (wi r24 (wr r24 a0 47) (Int32.toNatClampNeg (1 : Int32)))) + (wi r24 (wr r24 a0 47) (Int32.toNatClampNeg (2 : Int32))))
  if x8 = (1 : Int32) then
    gd (wk w33 (wr w33 a0 48) == 100) <|
    gd (inb (0 : Int32) (wn w33 (wr w33 a0 48))) <|
    F_M_learn_561 a0 x7 x9 s0 (wi w33 (wr w33 a0 48) (Int32.toNatClampNeg (0 : Int32))) (5 : Int32) (wr w33 a0 46) w33
  else
    gd (wk w33 (wr w33 a0 47) == 100) <|
    gd (inb (0 : Int32) (wn w33 (wr w33 a0 47))) <|
    gd (wk w33 (wr w33 a0 48) == 100) <|
    gd (inb (0 : Int32) (wn w33 (wr w33 a0 48))) <|
    F_M_learn_561 a0 x7 x9 s0 ((wi w33 (wr w33 a0 47) (Int32.toNatClampNeg (0 : Int32))) - (wi w33 (wr w33 a0 48) (Int32.toNatClampNeg (0 : Int32)))) (5 : Int32) (wr w33 a0 46) w33
theorem P_M_learn_409 {X : AX} {l : Launch} {G : AG} (hX : XOK X b_M_learn "RedSkyModel" 11) (hM : XM X l G { frames := 6, cells := 0, slots := 0, locals := 140 }) {o : Int32 × AW} (hR : XR X (some .int) 0 0 (some (vi o.1)) o.2) (a0 : Nat) (x4 : Int32) (x5 : Int32) (x6 : Int32) (x7 : Int32) (x8 : Int32) (x9 : Int32) (s0 : Int32) (w : AW) (h : F_M_learn_409 a0 x4 x5 x6 x7 x8 x9 s0 w = some o) : RJ X 11 0 0 409 [(0, vr a0), (4, vi x4), (5, vi x5), (6, vi x6), (7, vi x7), (8, vi x8), (9, vi x9)] [vi s0] w := by
  unfold F_M_learn_409 at h
  refine r_istore (i := 10) hX d_M_learn_409  (by decide) ?_
  refine r_aload_n (i := 0) hX d_M_learn_411 1 rfl rfl ?_
  obtain ⟨hk1, h⟩ := gd_e h
  refine r_getR (i := 12) (f := 44) hX ci_12 (by decide) rfl fl_M_83 hk1 d_M_learn_412 ?_
  refine r_iconst (v := (0 : Int32)) hX d_M_learn_415 rfl ?_
  refine r_iconst (v := (2 : Int32)) hX d_M_learn_416 rfl ?_
  refine r_iload (i := 5) hX d_M_learn_417 3  rfl ?_
  refine r_imul hX d_M_learn_419 ?_
  refine r_iload (i := 8) hX d_M_learn_420 6  rfl ?_
  refine r_iadd hX d_M_learn_422 ?_
  obtain ⟨hk2, h⟩ := gd_e h
  obtain ⟨hg3, h⟩ := gd_e h
  refine r_iast hX hk2 hg3 d_M_learn_423 ?_
  refine r_aload_n (i := 0) hX d_M_learn_424 1 rfl rfl ?_
  refine r_getR (i := 12) (f := 44) hX ci_12 (by decide) rfl fl_M_83 (kI hk1) d_M_learn_425 ?_
  refine r_iconst (v := (1 : Int32)) hX d_M_learn_428 rfl ?_
  refine r_iconst (v := (2 : Int32)) hX d_M_learn_429 rfl ?_
  refine r_iload (i := 6) hX d_M_learn_430 4  rfl ?_
  refine r_imul hX d_M_learn_432 ?_
  refine r_iload (i := 9) hX d_M_learn_433 7  rfl ?_
  refine r_iadd hX d_M_learn_435 ?_
  obtain ⟨hk5, h⟩ := gd_e h
  obtain ⟨hg6, h⟩ := gd_e h
  refine r_iast hX hk5 hg6 d_M_learn_436 ?_
  refine r_aload_n (i := 0) hX d_M_learn_437 1 rfl rfl ?_
  refine r_getR (i := 12) (f := 46) hX ci_12 (by decide) rfl fl_M_86 (kI (kI hk1)) d_M_learn_438 ?_
  refine r_iconst (v := (0 : Int32)) hX d_M_learn_441 rfl ?_
  refine r_iload (i := 10) hX d_M_learn_442 0  rfl ?_
  obtain ⟨hk8, h⟩ := gd_e h
  obtain ⟨hg9, h⟩ := gd_e h
  refine r_iast hX hk8 hg9 d_M_learn_444 ?_
  refine r_aload_n (i := 0) hX d_M_learn_445 1 rfl rfl ?_
  refine r_getR (i := 12) (f := 46) hX ci_12 (by decide) rfl fl_M_86 (kI (kI (kI hk1))) d_M_learn_446 ?_
  refine r_iconst (v := (1 : Int32)) hX d_M_learn_449 rfl ?_
  refine r_aload_n (i := 0) hX d_M_learn_450 1 rfl rfl ?_
  refine r_getI (i := 12) (f := 45) hX ci_12 (by decide) rfl fl_M_367 (kI (kI (kI hk1))) d_M_learn_451 ?_
  obtain ⟨hk11, h⟩ := gd_e h
  obtain ⟨hg12, h⟩ := gd_e h
  refine r_iast hX hk11 hg12 d_M_learn_454 ?_
  refine r_aload_n (i := 0) hX d_M_learn_455 1 rfl rfl ?_
  refine r_getR (i := 12) (f := 46) hX ci_12 (by decide) rfl fl_M_86 (kI (kI (kI (kI hk1)))) d_M_learn_456 ?_
  refine r_iconst (v := (2 : Int32)) hX d_M_learn_459 rfl ?_
  refine r_aload_n (i := 0) hX d_M_learn_460 1 rfl rfl ?_
  refine r_getR (i := 12) (f := 47) hX ci_12 (by decide) rfl fl_M_89 (kI (kI (kI (kI hk1)))) d_M_learn_461 ?_
  refine r_iconst (v := (0 : Int32)) hX d_M_learn_464 rfl ?_
  obtain ⟨hk14, h⟩ := gd_e h
  obtain ⟨hg15, h⟩ := gd_e h
  refine r_iald hX hk14 hg15 d_M_learn_465 ?_
  refine r_aload_n (i := 0) hX d_M_learn_466 1 rfl rfl ?_
  refine r_getR (i := 12) (f := 47) hX ci_12 (by decide) rfl fl_M_89 (kI (kI (kI (kI hk1)))) d_M_learn_467 ?_
  refine r_iconst (v := (1 : Int32)) hX d_M_learn_470 rfl ?_
  obtain ⟨hg16, h⟩ := gd_e h
  refine r_iald hX hk14 hg16 d_M_learn_471 ?_
  refine r_iadd hX d_M_learn_472 ?_
  refine r_aload_n (i := 0) hX d_M_learn_473 1 rfl rfl ?_
  refine r_getR (i := 12) (f := 47) hX ci_12 (by decide) rfl fl_M_89 (kI (kI (kI (kI hk1)))) d_M_learn_474 ?_
  refine r_iconst (v := (2 : Int32)) hX d_M_learn_477 rfl ?_
  obtain ⟨hg17, h⟩ := gd_e h
  refine r_iald hX hk14 hg17 d_M_learn_478 ?_
  refine r_iadd hX d_M_learn_479 ?_
  obtain ⟨hk18, h⟩ := gd_e h
  obtain ⟨hg19, h⟩ := gd_e h
  refine r_iast hX hk18 hg19 d_M_learn_480 ?_
  refine r_aload_n (i := 0) hX d_M_learn_481 1 rfl rfl ?_
  refine r_getR (i := 12) (f := 46) hX ci_12 (by decide) rfl fl_M_86 (kI (kI (kI (kI (kI hk1))))) d_M_learn_482 ?_
  refine r_iconst (v := (3 : Int32)) hX d_M_learn_485 rfl ?_
  refine r_iload (i := 7) hX d_M_learn_486 5  rfl ?_
  obtain ⟨hk21, h⟩ := gd_e h
  obtain ⟨hg22, h⟩ := gd_e h
  refine r_iast hX hk21 hg22 d_M_learn_488 ?_
  refine r_aload_n (i := 0) hX d_M_learn_489 1 rfl rfl ?_
  refine r_bipush (v := (15 : Int32)) hX d_M_learn_490 rfl ?_
  refine r_iload (i := 4) hX d_M_learn_492 2  rfl ?_
  refine r_isub hX d_M_learn_494 ?_
  refine r_iload (i := 5) hX d_M_learn_495 3  rfl ?_
  refine r_iload (i := 6) hX d_M_learn_497 4  rfl ?_
  obtain ⟨r24, hr25, h⟩ := bd_e h
  refine r_callV0 (As := [_, _, _]) hX hM mw_M_357 (T_M_countBy _ _ _ _ _ hr25) (rc_of ci_12 (kI (kI (kI (kI (kI (kI hk1))))))) rfl rfl ⟨Nat.le_refl _, Nat.le_refl _⟩ rfl rfl d_M_learn_499 ?_
  refine r_aload_n (i := 0) hX d_M_learn_502 1 rfl rfl ?_
  obtain ⟨hk26, h⟩ := gd_e h
  refine r_getR (i := 12) (f := 46) hX ci_12 (by decide) rfl fl_M_86 hk26 d_M_learn_503 ?_
  refine r_iconst (v := (4 : Int32)) hX d_M_learn_506 rfl ?_
  refine r_aload_n (i := 0) hX d_M_learn_507 1 rfl rfl ?_
  refine r_getR (i := 12) (f := 47) hX ci_12 (by decide) rfl fl_M_89 hk26 d_M_learn_508 ?_
  refine r_iconst (v := (0 : Int32)) hX d_M_learn_511 rfl ?_
  obtain ⟨hk27, h⟩ := gd_e h
  obtain ⟨hg28, h⟩ := gd_e h
  refine r_iald hX hk27 hg28 d_M_learn_512 ?_
  refine r_aload_n (i := 0) hX d_M_learn_513 1 rfl rfl ?_
  refine r_getR (i := 12) (f := 47) hX ci_12 (by decide) rfl fl_M_89 hk26 d_M_learn_514 ?_
  refine r_iconst (v := (1 : Int32)) hX d_M_learn_517 rfl ?_
  obtain ⟨hg29, h⟩ := gd_e h
  refine r_iald hX hk27 hg29 d_M_learn_518 ?_
  refine r_iadd hX d_M_learn_519 ?_
  refine r_aload_n (i := 0) hX d_M_learn_520 1 rfl rfl ?_
  refine r_getR (i := 12) (f := 47) hX ci_12 (by decide) rfl fl_M_89 hk26 d_M_learn_521 ?_
  refine r_iconst (v := (2 : Int32)) hX d_M_learn_524 rfl ?_
  obtain ⟨hg30, h⟩ := gd_e h
  refine r_iald hX hk27 hg30 d_M_learn_525 ?_
  refine r_iadd hX d_M_learn_526 ?_
  obtain ⟨hk31, h⟩ := gd_e h
  obtain ⟨hg32, h⟩ := gd_e h
  refine r_iast hX hk31 hg32 d_M_learn_527 ?_
  refine r_aload_n (i := 0) hX d_M_learn_528 1 rfl rfl ?_
  refine r_getR (i := 12) (f := 46) hX ci_12 (by decide) rfl fl_M_86 (kI hk26) d_M_learn_529 ?_
  refine r_iconst (v := (5 : Int32)) hX d_M_learn_532 rfl ?_
  refine r_iload (i := 8) hX d_M_learn_533 6  rfl ?_
  refine r_iconst (v := (1 : Int32)) hX d_M_learn_535 rfl ?_
  refine r_icmp_ne hX d_M_learn_536 rfl h (fun h => ?_) (fun h => ?_)
  · refine r_aload_n (i := 0) hX d_M_learn_548 1 rfl rfl ?_
    refine r_getR (i := 12) (f := 47) hX ci_12 (by decide) rfl fl_M_89 (kI hk26) d_M_learn_549 ?_
    refine r_iconst (v := (0 : Int32)) hX d_M_learn_552 rfl ?_
    obtain ⟨hk34, h⟩ := gd_e h
    obtain ⟨hg35, h⟩ := gd_e h
    refine r_iald hX hk34 hg35 d_M_learn_553 ?_
    refine r_aload_n (i := 0) hX d_M_learn_554 1 rfl rfl ?_
    refine r_getR (i := 12) (f := 48) hX ci_12 (by decide) rfl fl_M_92 (kI hk26) d_M_learn_555 ?_
    refine r_iconst (v := (0 : Int32)) hX d_M_learn_558 rfl ?_
    obtain ⟨hk36, h⟩ := gd_e h
    obtain ⟨hg37, h⟩ := gd_e h
    refine r_iald hX hk36 hg37 d_M_learn_559 ?_
    refine r_isub hX d_M_learn_560 ?_
    exact rj_sub [1, 5, 7, 0] rfl (P_M_learn_561 hX hM hR _ _ _ _ _ _ _ _ h)
  · refine r_aload_n (i := 0) hX d_M_learn_539 1 rfl rfl ?_
    refine r_getR (i := 12) (f := 48) hX ci_12 (by decide) rfl fl_M_92 (kI hk26) d_M_learn_540 ?_
    refine r_iconst (v := (0 : Int32)) hX d_M_learn_543 rfl ?_
    obtain ⟨hk38, h⟩ := gd_e h
    obtain ⟨hg39, h⟩ := gd_e h
    refine r_iald hX hk38 hg39 d_M_learn_544 ?_
    refine r_goto hX d_M_learn_545 rfl ?_
    exact rj_sub [1, 5, 7, 0] rfl (P_M_learn_561 hX hM hR _ _ _ _ _ _ _ _ h)
def F_M_learn_385 (a0 : Nat) (x4 : Int32) (x5 : Int32) (x6 : Int32) (x7 : Int32) (x8 : Int32) (s0 : Int32) (w : AW) : Option (Int32 × AW) :=
  gd (wk w a0 == 13) <|
  gd (wk w (wr w a0 48) == 100) <|
  gd (inb (2 : Int32) (wn w (wr w a0 48))) <|
  gd (wk w (wr w a0 47) == 100) <|
  gd (inb (2 : Int32) (wn w (wr w a0 47))) <|
  if ((2 : Int32) * (wi w (wr w a0 48) (Int32.toNatClampNeg (2 : Int32)))) ≤ (wi w (wr w a0 47) (Int32.toNatClampNeg (2 : Int32))) then
    F_M_learn_409 a0 x4 x5 x6 x7 x8 s0 (0 : Int32) w
  else
    F_M_learn_409 a0 x4 x5 x6 x7 x8 s0 (1 : Int32) w
theorem P_M_learn_385 {X : AX} {l : Launch} {G : AG} (hX : XOK X b_M_learn "RedSkyModel" 11) (hM : XM X l G { frames := 6, cells := 0, slots := 0, locals := 140 }) {o : Int32 × AW} (hR : XR X (some .int) 0 0 (some (vi o.1)) o.2) (a0 : Nat) (x4 : Int32) (x5 : Int32) (x6 : Int32) (x7 : Int32) (x8 : Int32) (s0 : Int32) (w : AW) (h : F_M_learn_385 a0 x4 x5 x6 x7 x8 s0 w = some o) : RJ X 11 0 0 385 [(0, vr a0), (4, vi x4), (5, vi x5), (6, vi x6), (7, vi x7), (8, vi x8)] [vi s0] w := by
  unfold F_M_learn_385 at h
  refine r_istore (i := 9) hX d_M_learn_385  (by decide) ?_
  refine r_iconst (v := (2 : Int32)) hX d_M_learn_387 rfl ?_
  refine r_aload_n (i := 0) hX d_M_learn_388 1 rfl rfl ?_
  obtain ⟨hk1, h⟩ := gd_e h
  refine r_getR (i := 12) (f := 48) hX ci_12 (by decide) rfl fl_M_92 hk1 d_M_learn_389 ?_
  refine r_iconst (v := (2 : Int32)) hX d_M_learn_392 rfl ?_
  obtain ⟨hk2, h⟩ := gd_e h
  obtain ⟨hg3, h⟩ := gd_e h
  refine r_iald hX hk2 hg3 d_M_learn_393 ?_
  refine r_imul hX d_M_learn_394 ?_
  refine r_aload_n (i := 0) hX d_M_learn_395 1 rfl rfl ?_
  refine r_getR (i := 12) (f := 47) hX ci_12 (by decide) rfl fl_M_89 hk1 d_M_learn_396 ?_
  refine r_iconst (v := (2 : Int32)) hX d_M_learn_399 rfl ?_
  obtain ⟨hk4, h⟩ := gd_e h
  obtain ⟨hg5, h⟩ := gd_e h
  refine r_iald hX hk4 hg5 d_M_learn_400 ?_
  refine r_icmp_le hX d_M_learn_401 rfl h (fun h => ?_) (fun h => ?_)
  · refine r_iconst (v := (0 : Int32)) hX d_M_learn_408 rfl ?_
    exact rj_sub [1, 2, 3, 4, 5, 6, 0] rfl (P_M_learn_409 hX hM hR _ _ _ _ _ _ _ _ _ h)
  · refine r_iconst (v := (1 : Int32)) hX d_M_learn_404 rfl ?_
    refine r_goto hX d_M_learn_405 rfl ?_
    exact rj_sub [1, 2, 3, 4, 5, 6, 0] rfl (P_M_learn_409 hX hM hR _ _ _ _ _ _ _ _ _ h)
def F_M_learn_361 (a0 : Nat) (x4 : Int32) (x5 : Int32) (x6 : Int32) (x7 : Int32) (s0 : Int32) (w : AW) : Option (Int32 × AW) :=
  gd (wk w a0 == 13) <|
  gd (wk w (wr w a0 48) == 100) <|
  gd (inb (1 : Int32) (wn w (wr w a0 48))) <|
  gd (wk w (wr w a0 47) == 100) <|
  gd (inb (1 : Int32) (wn w (wr w a0 47))) <|
  if ((2 : Int32) * (wi w (wr w a0 48) (Int32.toNatClampNeg (1 : Int32)))) ≤ (wi w (wr w a0 47) (Int32.toNatClampNeg (1 : Int32))) then
    F_M_learn_385 a0 x4 x5 x6 x7 s0 (0 : Int32) w
  else
    F_M_learn_385 a0 x4 x5 x6 x7 s0 (1 : Int32) w
theorem P_M_learn_361 {X : AX} {l : Launch} {G : AG} (hX : XOK X b_M_learn "RedSkyModel" 11) (hM : XM X l G { frames := 6, cells := 0, slots := 0, locals := 140 }) {o : Int32 × AW} (hR : XR X (some .int) 0 0 (some (vi o.1)) o.2) (a0 : Nat) (x4 : Int32) (x5 : Int32) (x6 : Int32) (x7 : Int32) (s0 : Int32) (w : AW) (h : F_M_learn_361 a0 x4 x5 x6 x7 s0 w = some o) : RJ X 11 0 0 361 [(0, vr a0), (4, vi x4), (5, vi x5), (6, vi x6), (7, vi x7)] [vi s0] w := by
  unfold F_M_learn_361 at h
  refine r_istore (i := 8) hX d_M_learn_361  (by decide) ?_
  refine r_iconst (v := (2 : Int32)) hX d_M_learn_363 rfl ?_
  refine r_aload_n (i := 0) hX d_M_learn_364 1 rfl rfl ?_
  obtain ⟨hk1, h⟩ := gd_e h
  refine r_getR (i := 12) (f := 48) hX ci_12 (by decide) rfl fl_M_92 hk1 d_M_learn_365 ?_
  refine r_iconst (v := (1 : Int32)) hX d_M_learn_368 rfl ?_
  obtain ⟨hk2, h⟩ := gd_e h
  obtain ⟨hg3, h⟩ := gd_e h
  refine r_iald hX hk2 hg3 d_M_learn_369 ?_
  refine r_imul hX d_M_learn_370 ?_
  refine r_aload_n (i := 0) hX d_M_learn_371 1 rfl rfl ?_
  refine r_getR (i := 12) (f := 47) hX ci_12 (by decide) rfl fl_M_89 hk1 d_M_learn_372 ?_
  refine r_iconst (v := (1 : Int32)) hX d_M_learn_375 rfl ?_
  obtain ⟨hk4, h⟩ := gd_e h
  obtain ⟨hg5, h⟩ := gd_e h
  refine r_iald hX hk4 hg5 d_M_learn_376 ?_
  refine r_icmp_le hX d_M_learn_377 rfl h (fun h => ?_) (fun h => ?_)
  · refine r_iconst (v := (0 : Int32)) hX d_M_learn_384 rfl ?_
    exact rj_sub [1, 2, 3, 4, 5, 0] rfl (P_M_learn_385 hX hM hR _ _ _ _ _ _ _ _ h)
  · refine r_iconst (v := (1 : Int32)) hX d_M_learn_380 rfl ?_
    refine r_goto hX d_M_learn_381 rfl ?_
    exact rj_sub [1, 2, 3, 4, 5, 0] rfl (P_M_learn_385 hX hM hR _ _ _ _ _ _ _ _ h)
def F_M_learn_336 (a0 : Nat) (x4 : Int32) (x5 : Int32) (x6 : Int32) (x7 : Int32) (s1 : Int32) (s0 : Nat) (w : AW) : Option (Int32 × AW) :=
  gd (wk w s0 == 13) <|
  let w2 : AW := upI w s0 45 s1
  gd (wk w2 a0 == 13) <|
  gd (wk w2 (wr w2 a0 48) == 100) <|
  gd (inb (0 : Int32) (wn w2 (wr w2 a0 48))) <|
  gd (wk w2 (wr w2 a0 47) == 100) <|
  gd (inb (0 : Int32) (wn w2 (wr w2 a0 47))) <|
  if ((2 : Int32) * (wi w2 (wr w2 a0 48) (Int32.toNatClampNeg (0 : Int32)))) ≤ (wi w2 (wr w2 a0 47) (Int32.toNatClampNeg (0 : Int32))) then
    F_M_learn_361 a0 x4 x5 x6 x7 (0 : Int32) w2
  else
    F_M_learn_361 a0 x4 x5 x6 x7 (1 : Int32) w2
theorem P_M_learn_336 {X : AX} {l : Launch} {G : AG} (hX : XOK X b_M_learn "RedSkyModel" 11) (hM : XM X l G { frames := 6, cells := 0, slots := 0, locals := 140 }) {o : Int32 × AW} (hR : XR X (some .int) 0 0 (some (vi o.1)) o.2) (a0 : Nat) (x4 : Int32) (x5 : Int32) (x6 : Int32) (x7 : Int32) (s1 : Int32) (s0 : Nat) (w : AW) (h : F_M_learn_336 a0 x4 x5 x6 x7 s1 s0 w = some o) : RJ X 11 0 0 336 [(0, vr a0), (4, vi x4), (5, vi x5), (6, vi x6), (7, vi x7)] [vi s1, vr s0] w := by
  unfold F_M_learn_336 at h
  obtain ⟨hk1, h⟩ := gd_e h
  refine r_putI (i := 12) (f := 45) hX ci_12 (by decide) rfl rfl (fun G => rfl) (fun G => rfl) fl_M_367 hk1 d_M_learn_336 ?_
  refine r_iconst (v := (2 : Int32)) hX d_M_learn_339 rfl ?_
  refine r_aload_n (i := 0) hX d_M_learn_340 0 rfl rfl ?_
  obtain ⟨hk3, h⟩ := gd_e h
  refine r_getR (i := 12) (f := 48) hX ci_12 (by decide) rfl fl_M_92 hk3 d_M_learn_341 ?_
  refine r_iconst (v := (0 : Int32)) hX d_M_learn_344 rfl ?_
  obtain ⟨hk4, h⟩ := gd_e h
  obtain ⟨hg5, h⟩ := gd_e h
  refine r_iald hX hk4 hg5 d_M_learn_345 ?_
  refine r_imul hX d_M_learn_346 ?_
  refine r_aload_n (i := 0) hX d_M_learn_347 0 rfl rfl ?_
  refine r_getR (i := 12) (f := 47) hX ci_12 (by decide) rfl fl_M_89 hk3 d_M_learn_348 ?_
  refine r_iconst (v := (0 : Int32)) hX d_M_learn_351 rfl ?_
  obtain ⟨hk6, h⟩ := gd_e h
  obtain ⟨hg7, h⟩ := gd_e h
  refine r_iald hX hk6 hg7 d_M_learn_352 ?_
  refine r_icmp_le hX d_M_learn_353 rfl h (fun h => ?_) (fun h => ?_)
  · refine r_iconst (v := (0 : Int32)) hX d_M_learn_360 rfl ?_
    exact rj_sub [0, 1, 2, 3, 4] rfl (P_M_learn_361 hX hM hR _ _ _ _ _ _ _ h)
  · refine r_iconst (v := (1 : Int32)) hX d_M_learn_356 rfl ?_
    refine r_goto hX d_M_learn_357 rfl ?_
    exact rj_sub [0, 1, 2, 3, 4] rfl (P_M_learn_361 hX hM hR _ _ _ _ _ _ _ h)
def F_M_learn_238 (rec191 : Nat → Int32 → Int32 → Int32 → Int32 → Int32 → Int32 → AW → Option (Int32 × AW)) (rec200 : Nat → Int32 → Int32 → Int32 → Int32 → Int32 → Int32 → Int32 → AW → Option (Int32 × AW)) (rec222 : Nat → Int32 → Int32 → Int32 → Int32 → Int32 → Int32 → Int32 → Int32 → AW → Option (Int32 × AW)) (a0 : Nat) (x3 : Int32) (x4 : Int32) (x5 : Int32) (x6 : Int32) (x7 : Int32) (x8 : Int32) (x9 : Int32) (x10 : Int32) (s1 : Int32) (s0 : Int32) (w : AW) : Option (Int32 × AW) :=
  if s1 ≤ s0 then
    let v1 : Int32 := (x9 + (1 : Int32))
    rec200 a0 x3 x4 x5 x6 x7 x8 v1 w
  else
    if x9 = x10 then
      let v2 : Int32 := (x10 + (1 : Int32))
      rec222 a0 x3 x4 x5 x6 x7 x8 x9 v2 w
    else
      gd (wk w a0 == 13) <|
      (F_M_countBy a0 x4 x9 x10 w).bind fun r4 =>
      gd (wk r4 a0 == 13) <|
      (F_M_rightOf r4 a0).bind fun r7 =>
      if r7 ≤ x7 then
        let v9 : Int32 := (x10 + (1 : Int32))
        rec222 a0 x3 x4 x5 x6 x7 x8 x9 v9 r4
      else
        (F_M_rightOf r4 a0).bind fun r10 =>
        let v12 : Int32 := (x10 + (1 : Int32))
        rec222 a0 x3 x4 x9 x10 r10 x8 x9 v12 r4
theorem P_M_learn_238 {X : AX} {l : Launch} {G : AG} {rec191 : Nat → Int32 → Int32 → Int32 → Int32 → Int32 → Int32 → AW → Option (Int32 × AW)} {rec200 : Nat → Int32 → Int32 → Int32 → Int32 → Int32 → Int32 → Int32 → AW → Option (Int32 × AW)} {rec222 : Nat → Int32 → Int32 → Int32 → Int32 → Int32 → Int32 → Int32 → Int32 → AW → Option (Int32 × AW)} (hX : XOK X b_M_learn "RedSkyModel" 11) (hM : XM X l G { frames := 6, cells := 0, slots := 0, locals := 140 }) {o : Int32 × AW} (hR : XR X (some .int) 0 0 (some (vi o.1)) o.2) (hrec191 : ∀ (a0 : Nat) (x3 : Int32) (x4 : Int32) (x5 : Int32) (x6 : Int32) (x7 : Int32) (x8 : Int32) (w : AW), rec191 a0 x3 x4 x5 x6 x7 x8 w = some o → RJ X 11 0 0 191 [(0, vr a0), (3, vi x3), (4, vi x4), (5, vi x5), (6, vi x6), (7, vi x7), (8, vi x8)] [] w) (hrec200 : ∀ (a0 : Nat) (x3 : Int32) (x4 : Int32) (x5 : Int32) (x6 : Int32) (x7 : Int32) (x8 : Int32) (x9 : Int32) (w : AW), rec200 a0 x3 x4 x5 x6 x7 x8 x9 w = some o → RJ X 11 0 0 200 [(0, vr a0), (3, vi x3), (4, vi x4), (5, vi x5), (6, vi x6), (7, vi x7), (8, vi x8), (9, vi x9)] [] w) (hrec222 : ∀ (a0 : Nat) (x3 : Int32) (x4 : Int32) (x5 : Int32) (x6 : Int32) (x7 : Int32) (x8 : Int32) (x9 : Int32) (x10 : Int32) (w : AW), rec222 a0 x3 x4 x5 x6 x7 x8 x9 x10 w = some o → RJ X 11 0 0 222 [(0, vr a0), (3, vi x3), (4, vi x4), (5, vi x5), (6, vi x6), (7, vi x7), (8, vi x8), (9, vi x9), (10, vi x10)] [] w) (a0 : Nat) (x3 : Int32) (x4 : Int32) (x5 : Int32) (x6 : Int32) (x7 : Int32) (x8 : Int32) (x9 : Int32) (x10 : Int32) (s1 : Int32) (s0 : Int32) (w : AW) (h : F_M_learn_238 rec191 rec200 rec222 a0 x3 x4 x5 x6 x7 x8 x9 x10 s1 s0 w = some o) : RJ X 11 0 0 238 [(0, vr a0), (3, vi x3), (4, vi x4), (5, vi x5), (6, vi x6), (7, vi x7), (8, vi x8), (9, vi x9), (10, vi x10)] [vi s1, vi s0] w := by
  unfold F_M_learn_238 at h
  refine r_icmp_ge hX d_M_learn_238 rfl h (fun h => ?_) (fun h => ?_)
  · refine r_iinc (i := 9) (v := (1 : Int32)) hX d_M_learn_287 7 rfl rfl (by decide) ?_
    refine r_goto hX d_M_learn_290 rfl ?_
    exact rj_sub [1, 2, 3, 4, 5, 6, 7, 0] rfl (hrec200 _ _ _ _ _ _ _ _ _ h)
  · refine r_iload (i := 9) hX d_M_learn_241 7  rfl ?_
    refine r_iload (i := 10) hX d_M_learn_243 8  rfl ?_
    refine r_icmp_eq hX d_M_learn_245 rfl h (fun h => ?_) (fun h => ?_)
    · refine r_iinc (i := 10) (v := (1 : Int32)) hX d_M_learn_281 8 rfl rfl (by decide) ?_
      refine r_goto hX d_M_learn_284 rfl ?_
      exact rj_sub [1, 2, 3, 4, 5, 6, 7, 8, 0] rfl (hrec222 _ _ _ _ _ _ _ _ _ _ h)
    · refine r_aload_n (i := 0) hX d_M_learn_248 0 rfl rfl ?_
      refine r_iload (i := 4) hX d_M_learn_249 2  rfl ?_
      refine r_iload (i := 9) hX d_M_learn_251 7  rfl ?_
      refine r_iload (i := 10) hX d_M_learn_253 8  rfl ?_
      obtain ⟨hk3, h⟩ := gd_e h
      obtain ⟨r4, hr5, h⟩ := bd_e h
      refine r_callV0 (As := [_, _, _]) hX hM mw_M_357 (T_M_countBy _ _ _ _ _ hr5) (rc_of ci_12 hk3) rfl rfl ⟨Nat.le_refl _, Nat.le_refl _⟩ rfl rfl d_M_learn_255 ?_
      refine r_aload_n (i := 0) hX d_M_learn_258 0 rfl rfl ?_
      obtain ⟨hk6, h⟩ := gd_e h
      obtain ⟨r7, hr8, h⟩ := bd_e h
      refine r_callV1 (As := []) hX hM mw_M_361 (T_M_rightOf _ _ hr8) (rc_of ci_12 hk6) rfl rfl ⟨Nat.le_refl _, Nat.le_refl _⟩ rfl rfl d_M_learn_259 ?_
      refine r_iload (i := 7) hX d_M_learn_262 5  rfl ?_
      refine r_icmp_le hX d_M_learn_264 rfl h (fun h => ?_) (fun h => ?_)
      · refine r_iinc (i := 10) (v := (1 : Int32)) hX d_M_learn_281 8 rfl rfl (by decide) ?_
        refine r_goto hX d_M_learn_284 rfl ?_
        exact rj_sub [1, 2, 3, 4, 5, 6, 7, 8, 0] rfl (hrec222 _ _ _ _ _ _ _ _ _ _ h)
      · refine r_aload_n (i := 0) hX d_M_learn_267 0 rfl rfl ?_
        obtain ⟨r10, hr11, h⟩ := bd_e h
        refine r_callV1 (As := []) hX hM mw_M_361 (T_M_rightOf _ _ hr11) (rc_of ci_12 hk6) rfl rfl ⟨Nat.le_refl _, Nat.le_refl _⟩ rfl rfl d_M_learn_268 ?_
        refine r_istore (i := 7) hX d_M_learn_271  (by decide) ?_
        refine r_iload (i := 9) hX d_M_learn_273 7  rfl ?_
        refine r_istore (i := 5) hX d_M_learn_275  (by decide) ?_
        refine r_iload (i := 10) hX d_M_learn_277 8  rfl ?_
        refine r_istore (i := 6) hX d_M_learn_279  (by decide) ?_
        refine r_iinc (i := 10) (v := (1 : Int32)) hX d_M_learn_281 8 rfl rfl (by decide) ?_
        refine r_goto hX d_M_learn_284 rfl ?_
        exact rj_sub [4, 5, 6, 2, 1, 3, 7, 8, 0] rfl (hrec222 _ _ _ _ _ _ _ _ _ _ h)
def F_M_learn_222_B (rec191 : Nat → Int32 → Int32 → Int32 → Int32 → Int32 → Int32 → AW → Option (Int32 × AW)) (rec200 : Nat → Int32 → Int32 → Int32 → Int32 → Int32 → Int32 → Int32 → AW → Option (Int32 × AW)) (rec222 : Nat → Int32 → Int32 → Int32 → Int32 → Int32 → Int32 → Int32 → Int32 → AW → Option (Int32 × AW)) (a0 : Nat) (x3 : Int32) (x4 : Int32) (x5 : Int32) (x6 : Int32) (x7 : Int32) (x8 : Int32) (x9 : Int32) (x10 : Int32) (w : AW) : Option (Int32 × AW) :=
  if x8 = (1 : Int32) then
    F_M_learn_238 rec191 rec200 rec222 a0 x3 x4 x5 x6 x7 x8 x9 x10 (0 : Int32) x10 w
  else
    gd (wk w a0 == 13) <|
    F_M_learn_238 rec191 rec200 rec222 a0 x3 x4 x5 x6 x7 x8 x9 x10 (wi w a0 29) x10 w
theorem P_M_learn_222_B {X : AX} {l : Launch} {G : AG} {rec191 : Nat → Int32 → Int32 → Int32 → Int32 → Int32 → Int32 → AW → Option (Int32 × AW)} {rec200 : Nat → Int32 → Int32 → Int32 → Int32 → Int32 → Int32 → Int32 → AW → Option (Int32 × AW)} {rec222 : Nat → Int32 → Int32 → Int32 → Int32 → Int32 → Int32 → Int32 → Int32 → AW → Option (Int32 × AW)} (hX : XOK X b_M_learn "RedSkyModel" 11) (hM : XM X l G { frames := 6, cells := 0, slots := 0, locals := 140 }) {o : Int32 × AW} (hR : XR X (some .int) 0 0 (some (vi o.1)) o.2) (hrec191 : ∀ (a0 : Nat) (x3 : Int32) (x4 : Int32) (x5 : Int32) (x6 : Int32) (x7 : Int32) (x8 : Int32) (w : AW), rec191 a0 x3 x4 x5 x6 x7 x8 w = some o → RJ X 11 0 0 191 [(0, vr a0), (3, vi x3), (4, vi x4), (5, vi x5), (6, vi x6), (7, vi x7), (8, vi x8)] [] w) (hrec200 : ∀ (a0 : Nat) (x3 : Int32) (x4 : Int32) (x5 : Int32) (x6 : Int32) (x7 : Int32) (x8 : Int32) (x9 : Int32) (w : AW), rec200 a0 x3 x4 x5 x6 x7 x8 x9 w = some o → RJ X 11 0 0 200 [(0, vr a0), (3, vi x3), (4, vi x4), (5, vi x5), (6, vi x6), (7, vi x7), (8, vi x8), (9, vi x9)] [] w) (hrec222 : ∀ (a0 : Nat) (x3 : Int32) (x4 : Int32) (x5 : Int32) (x6 : Int32) (x7 : Int32) (x8 : Int32) (x9 : Int32) (x10 : Int32) (w : AW), rec222 a0 x3 x4 x5 x6 x7 x8 x9 x10 w = some o → RJ X 11 0 0 222 [(0, vr a0), (3, vi x3), (4, vi x4), (5, vi x5), (6, vi x6), (7, vi x7), (8, vi x8), (9, vi x9), (10, vi x10)] [] w) (a0 : Nat) (x3 : Int32) (x4 : Int32) (x5 : Int32) (x6 : Int32) (x7 : Int32) (x8 : Int32) (x9 : Int32) (x10 : Int32) (w : AW) (h : F_M_learn_222_B rec191 rec200 rec222 a0 x3 x4 x5 x6 x7 x8 x9 x10 w = some o) : RJ X 11 0 0 222 [(0, vr a0), (3, vi x3), (4, vi x4), (5, vi x5), (6, vi x6), (7, vi x7), (8, vi x8), (9, vi x9), (10, vi x10)] [] w := by
  unfold F_M_learn_222_B at h
  refine r_iload (i := 10) hX d_M_learn_222 8  rfl ?_
  refine r_iload (i := 8) hX d_M_learn_224 6  rfl ?_
  refine r_iconst (v := (1 : Int32)) hX d_M_learn_226 rfl ?_
  refine r_icmp_ne hX d_M_learn_227 rfl h (fun h => ?_) (fun h => ?_)
  · refine r_aload_n (i := 0) hX d_M_learn_234 0 rfl rfl ?_
    obtain ⟨hk1, h⟩ := gd_e h
    refine r_getI (i := 12) (f := 29) hX ci_12 (by decide) rfl fl_M_294 hk1 d_M_learn_235 ?_
    exact rj_sub [0, 1, 2, 3, 4, 5, 6, 7, 8] rfl (P_M_learn_238 hX hM hR hrec191 hrec200 hrec222 _ _ _ _ _ _ _ _ _ _ _ _ h)
  · refine r_iconst (v := (0 : Int32)) hX d_M_learn_230 rfl ?_
    refine r_goto hX d_M_learn_231 rfl ?_
    exact rj_sub [0, 1, 2, 3, 4, 5, 6, 7, 8] rfl (P_M_learn_238 hX hM hR hrec191 hrec200 hrec222 _ _ _ _ _ _ _ _ _ _ _ _ h)
def F_M_learn_222 (rec191 : Nat → Int32 → Int32 → Int32 → Int32 → Int32 → Int32 → AW → Option (Int32 × AW)) (rec200 : Nat → Int32 → Int32 → Int32 → Int32 → Int32 → Int32 → Int32 → AW → Option (Int32 × AW)) : Nat → Nat → Int32 → Int32 → Int32 → Int32 → Int32 → Int32 → Int32 → Int32 → AW → Option (Int32 × AW)
  | 0 => fun _ _ _ _ _ _ _ _ _ _ => none
  | n + 1 => fun a0 x3 x4 x5 x6 x7 x8 x9 x10 w => F_M_learn_222_B rec191 rec200 (F_M_learn_222 rec191 rec200 n) a0 x3 x4 x5 x6 x7 x8 x9 x10 w
theorem P_M_learn_222 {X : AX} {l : Launch} {G : AG} {rec191 : Nat → Int32 → Int32 → Int32 → Int32 → Int32 → Int32 → AW → Option (Int32 × AW)} {rec200 : Nat → Int32 → Int32 → Int32 → Int32 → Int32 → Int32 → Int32 → AW → Option (Int32 × AW)} (hX : XOK X b_M_learn "RedSkyModel" 11) (hM : XM X l G { frames := 6, cells := 0, slots := 0, locals := 140 }) {o : Int32 × AW} (hR : XR X (some .int) 0 0 (some (vi o.1)) o.2) (hrec191 : ∀ (a0 : Nat) (x3 : Int32) (x4 : Int32) (x5 : Int32) (x6 : Int32) (x7 : Int32) (x8 : Int32) (w : AW), rec191 a0 x3 x4 x5 x6 x7 x8 w = some o → RJ X 11 0 0 191 [(0, vr a0), (3, vi x3), (4, vi x4), (5, vi x5), (6, vi x6), (7, vi x7), (8, vi x8)] [] w) (hrec200 : ∀ (a0 : Nat) (x3 : Int32) (x4 : Int32) (x5 : Int32) (x6 : Int32) (x7 : Int32) (x8 : Int32) (x9 : Int32) (w : AW), rec200 a0 x3 x4 x5 x6 x7 x8 x9 w = some o → RJ X 11 0 0 200 [(0, vr a0), (3, vi x3), (4, vi x4), (5, vi x5), (6, vi x6), (7, vi x7), (8, vi x8), (9, vi x9)] [] w) (fu : Nat) : ∀ (a0 : Nat) (x3 : Int32) (x4 : Int32) (x5 : Int32) (x6 : Int32) (x7 : Int32) (x8 : Int32) (x9 : Int32) (x10 : Int32) (w : AW), F_M_learn_222 rec191 rec200 fu a0 x3 x4 x5 x6 x7 x8 x9 x10 w = some o → RJ X 11 0 0 222 [(0, vr a0), (3, vi x3), (4, vi x4), (5, vi x5), (6, vi x6), (7, vi x7), (8, vi x8), (9, vi x9), (10, vi x10)] [] w := by
  induction fu with
  | zero => intro a0 x3 x4 x5 x6 x7 x8 x9 x10 w h; cases h
  | succ n9 ih => intro a0 x3 x4 x5 x6 x7 x8 x9 x10 w h; exact P_M_learn_222_B hX hM hR hrec191 hrec200 ih _ _ _ _ _ _ _ _ _ _ h
def F_M_learn_200_B (rec191 : Nat → Int32 → Int32 → Int32 → Int32 → Int32 → Int32 → AW → Option (Int32 × AW)) (rec200 : Nat → Int32 → Int32 → Int32 → Int32 → Int32 → Int32 → Int32 → AW → Option (Int32 × AW)) (a0 : Nat) (x3 : Int32) (x4 : Int32) (x5 : Int32) (x6 : Int32) (x7 : Int32) (x8 : Int32) (x9 : Int32) (w : AW) : Option (Int32 × AW) :=
  gd (wk w a0 == 13) <|
  if (wi w a0 29) ≤ x9 then
    let v2 : Int32 := (x8 + (1 : Int32))
    rec191 a0 x3 x4 x5 x6 x7 v2 w
  else
    if x8 = (1 : Int32) then
      F_M_learn_222 rec191 rec200 FUEL a0 x3 x4 x5 x6 x7 x8 x9 (-1 : Int32) w
    else
      F_M_learn_222 rec191 rec200 FUEL a0 x3 x4 x5 x6 x7 x8 x9 (0 : Int32) w
theorem P_M_learn_200_B {X : AX} {l : Launch} {G : AG} {rec191 : Nat → Int32 → Int32 → Int32 → Int32 → Int32 → Int32 → AW → Option (Int32 × AW)} {rec200 : Nat → Int32 → Int32 → Int32 → Int32 → Int32 → Int32 → Int32 → AW → Option (Int32 × AW)} (hX : XOK X b_M_learn "RedSkyModel" 11) (hM : XM X l G { frames := 6, cells := 0, slots := 0, locals := 140 }) {o : Int32 × AW} (hR : XR X (some .int) 0 0 (some (vi o.1)) o.2) (hrec191 : ∀ (a0 : Nat) (x3 : Int32) (x4 : Int32) (x5 : Int32) (x6 : Int32) (x7 : Int32) (x8 : Int32) (w : AW), rec191 a0 x3 x4 x5 x6 x7 x8 w = some o → RJ X 11 0 0 191 [(0, vr a0), (3, vi x3), (4, vi x4), (5, vi x5), (6, vi x6), (7, vi x7), (8, vi x8)] [] w) (hrec200 : ∀ (a0 : Nat) (x3 : Int32) (x4 : Int32) (x5 : Int32) (x6 : Int32) (x7 : Int32) (x8 : Int32) (x9 : Int32) (w : AW), rec200 a0 x3 x4 x5 x6 x7 x8 x9 w = some o → RJ X 11 0 0 200 [(0, vr a0), (3, vi x3), (4, vi x4), (5, vi x5), (6, vi x6), (7, vi x7), (8, vi x8), (9, vi x9)] [] w) (a0 : Nat) (x3 : Int32) (x4 : Int32) (x5 : Int32) (x6 : Int32) (x7 : Int32) (x8 : Int32) (x9 : Int32) (w : AW) (h : F_M_learn_200_B rec191 rec200 a0 x3 x4 x5 x6 x7 x8 x9 w = some o) : RJ X 11 0 0 200 [(0, vr a0), (3, vi x3), (4, vi x4), (5, vi x5), (6, vi x6), (7, vi x7), (8, vi x8), (9, vi x9)] [] w := by
  unfold F_M_learn_200_B at h
  refine r_iload (i := 9) hX d_M_learn_200 7  rfl ?_
  refine r_aload_n (i := 0) hX d_M_learn_202 0 rfl rfl ?_
  obtain ⟨hk1, h⟩ := gd_e h
  refine r_getI (i := 12) (f := 29) hX ci_12 (by decide) rfl fl_M_294 hk1 d_M_learn_203 ?_
  refine r_icmp_ge hX d_M_learn_206 rfl h (fun h => ?_) (fun h => ?_)
  · refine r_iinc (i := 8) (v := (1 : Int32)) hX d_M_learn_293 6 rfl rfl (by decide) ?_
    refine r_goto hX d_M_learn_296 rfl ?_
    exact rj_sub [1, 2, 3, 4, 5, 6, 0] rfl (hrec191 _ _ _ _ _ _ _ _ h)
  · refine r_iload (i := 8) hX d_M_learn_209 6  rfl ?_
    refine r_iconst (v := (1 : Int32)) hX d_M_learn_211 rfl ?_
    refine r_icmp_ne hX d_M_learn_212 rfl h (fun h => ?_) (fun h => ?_)
    · refine r_iconst (v := (0 : Int32)) hX d_M_learn_219 rfl ?_
      refine r_istore (i := 10) hX d_M_learn_220  (by decide) ?_
      exact rj_sub [1, 2, 3, 4, 5, 6, 7, 8, 0] rfl (P_M_learn_222 hX hM hR hrec191 hrec200 FUEL _ _ _ _ _ _ _ _ _ _ h)
    · refine r_iconst (v := (-1 : Int32)) hX d_M_learn_215 rfl ?_
      refine r_goto hX d_M_learn_216 rfl ?_
      refine r_istore (i := 10) hX d_M_learn_220  (by decide) ?_
      exact rj_sub [1, 2, 3, 4, 5, 6, 7, 8, 0] rfl (P_M_learn_222 hX hM hR hrec191 hrec200 FUEL _ _ _ _ _ _ _ _ _ _ h)
def F_M_learn_200 (rec191 : Nat → Int32 → Int32 → Int32 → Int32 → Int32 → Int32 → AW → Option (Int32 × AW)) : Nat → Nat → Int32 → Int32 → Int32 → Int32 → Int32 → Int32 → Int32 → AW → Option (Int32 × AW)
  | 0 => fun _ _ _ _ _ _ _ _ _ => none
  | n + 1 => fun a0 x3 x4 x5 x6 x7 x8 x9 w => F_M_learn_200_B rec191 (F_M_learn_200 rec191 n) a0 x3 x4 x5 x6 x7 x8 x9 w
theorem P_M_learn_200 {X : AX} {l : Launch} {G : AG} {rec191 : Nat → Int32 → Int32 → Int32 → Int32 → Int32 → Int32 → AW → Option (Int32 × AW)} (hX : XOK X b_M_learn "RedSkyModel" 11) (hM : XM X l G { frames := 6, cells := 0, slots := 0, locals := 140 }) {o : Int32 × AW} (hR : XR X (some .int) 0 0 (some (vi o.1)) o.2) (hrec191 : ∀ (a0 : Nat) (x3 : Int32) (x4 : Int32) (x5 : Int32) (x6 : Int32) (x7 : Int32) (x8 : Int32) (w : AW), rec191 a0 x3 x4 x5 x6 x7 x8 w = some o → RJ X 11 0 0 191 [(0, vr a0), (3, vi x3), (4, vi x4), (5, vi x5), (6, vi x6), (7, vi x7), (8, vi x8)] [] w) (fu : Nat) : ∀ (a0 : Nat) (x3 : Int32) (x4 : Int32) (x5 : Int32) (x6 : Int32) (x7 : Int32) (x8 : Int32) (x9 : Int32) (w : AW), F_M_learn_200 rec191 fu a0 x3 x4 x5 x6 x7 x8 x9 w = some o → RJ X 11 0 0 200 [(0, vr a0), (3, vi x3), (4, vi x4), (5, vi x5), (6, vi x6), (7, vi x7), (8, vi x8), (9, vi x9)] [] w := by
  induction fu with
  | zero => intro a0 x3 x4 x5 x6 x7 x8 x9 w h; cases h
  | succ n9 ih => intro a0 x3 x4 x5 x6 x7 x8 x9 w h; exact P_M_learn_200_B hX hM hR hrec191 ih _ _ _ _ _ _ _ _ _ h
def F_M_learn_191_B (rec191 : Nat → Int32 → Int32 → Int32 → Int32 → Int32 → Int32 → AW → Option (Int32 × AW)) (a0 : Nat) (x3 : Int32) (x4 : Int32) (x5 : Int32) (x6 : Int32) (x7 : Int32) (x8 : Int32) (w : AW) : Option (Int32 × AW) :=
  if x3 < x8 then
    gd (wk w a0 == 13) <|
    (F_M_countBy a0 x4 x5 x6 w).bind fun r2 =>
    gd (wk r2 a0 == 13) <|
    let w5 : AW := upI r2 a0 41 (1 : Int32)
    if x5 = (-1 : Int32) then
      F_M_learn_336 a0 x4 x5 x6 x7 (0 : Int32) a0 w5
    else
      if x6 = (-1 : Int32) then
        F_M_learn_336 a0 x4 x5 x6 x7 (1 : Int32) a0 w5
      else
        F_M_learn_336 a0 x4 x5 x6 x7 (2 : Int32) a0 w5
  else
    F_M_learn_200 rec191 FUEL a0 x3 x4 x5 x6 x7 x8 (0 : Int32) w
theorem P_M_learn_191_B {X : AX} {l : Launch} {G : AG} {rec191 : Nat → Int32 → Int32 → Int32 → Int32 → Int32 → Int32 → AW → Option (Int32 × AW)} (hX : XOK X b_M_learn "RedSkyModel" 11) (hM : XM X l G { frames := 6, cells := 0, slots := 0, locals := 140 }) {o : Int32 × AW} (hR : XR X (some .int) 0 0 (some (vi o.1)) o.2) (hrec191 : ∀ (a0 : Nat) (x3 : Int32) (x4 : Int32) (x5 : Int32) (x6 : Int32) (x7 : Int32) (x8 : Int32) (w : AW), rec191 a0 x3 x4 x5 x6 x7 x8 w = some o → RJ X 11 0 0 191 [(0, vr a0), (3, vi x3), (4, vi x4), (5, vi x5), (6, vi x6), (7, vi x7), (8, vi x8)] [] w) (a0 : Nat) (x3 : Int32) (x4 : Int32) (x5 : Int32) (x6 : Int32) (x7 : Int32) (x8 : Int32) (w : AW) (h : F_M_learn_191_B rec191 a0 x3 x4 x5 x6 x7 x8 w = some o) : RJ X 11 0 0 191 [(0, vr a0), (3, vi x3), (4, vi x4), (5, vi x5), (6, vi x6), (7, vi x7), (8, vi x8)] [] w := by
  unfold F_M_learn_191_B at h
  refine r_iload (i := 8) hX d_M_learn_191 6  rfl ?_
  refine r_iload_n (i := 3) hX d_M_learn_193 1 rfl rfl ?_
  refine r_icmp_gt hX d_M_learn_194 rfl h (fun h => ?_) (fun h => ?_)
  · refine r_aload_n (i := 0) hX d_M_learn_299 0 rfl rfl ?_
    refine r_iload (i := 4) hX d_M_learn_300 2  rfl ?_
    refine r_iload (i := 5) hX d_M_learn_302 3  rfl ?_
    refine r_iload (i := 6) hX d_M_learn_304 4  rfl ?_
    obtain ⟨hk1, h⟩ := gd_e h
    obtain ⟨r2, hr3, h⟩ := bd_e h
    refine r_callV0 (As := [_, _, _]) hX hM mw_M_357 (T_M_countBy _ _ _ _ _ hr3) (rc_of ci_12 hk1) rfl rfl ⟨Nat.le_refl _, Nat.le_refl _⟩ rfl rfl d_M_learn_306 ?_
    refine r_aload_n (i := 0) hX d_M_learn_309 0 rfl rfl ?_
    refine r_iconst (v := (1 : Int32)) hX d_M_learn_310 rfl ?_
    obtain ⟨hk4, h⟩ := gd_e h
    refine r_putI (i := 12) (f := 41) hX ci_12 (by decide) rfl rfl (fun G => rfl) (fun G => rfl) fl_M_364 hk4 d_M_learn_311 ?_
    refine r_aload_n (i := 0) hX d_M_learn_314 0 rfl rfl ?_
    refine r_iload (i := 5) hX d_M_learn_315 3  rfl ?_
    refine r_iconst (v := (-1 : Int32)) hX d_M_learn_317 rfl ?_
    refine r_icmp_ne hX d_M_learn_318 rfl h (fun h => ?_) (fun h => ?_)
    · refine r_iload (i := 6) hX d_M_learn_325 4  rfl ?_
      refine r_iconst (v := (-1 : Int32)) hX d_M_learn_327 rfl ?_
      refine r_icmp_ne hX d_M_learn_328 rfl h (fun h => ?_) (fun h => ?_)
      · refine r_iconst (v := (2 : Int32)) hX d_M_learn_335 rfl ?_
        exact rj_sub [0, 2, 3, 4, 5] rfl (P_M_learn_336 hX hM hR _ _ _ _ _ _ _ _ h)
      · refine r_iconst (v := (1 : Int32)) hX d_M_learn_331 rfl ?_
        refine r_goto hX d_M_learn_332 rfl ?_
        exact rj_sub [0, 2, 3, 4, 5] rfl (P_M_learn_336 hX hM hR _ _ _ _ _ _ _ _ h)
    · refine r_iconst (v := (0 : Int32)) hX d_M_learn_321 rfl ?_
      refine r_goto hX d_M_learn_322 rfl ?_
      exact rj_sub [0, 2, 3, 4, 5] rfl (P_M_learn_336 hX hM hR _ _ _ _ _ _ _ _ h)
  · refine r_iconst (v := (0 : Int32)) hX d_M_learn_197 rfl ?_
    refine r_istore (i := 9) hX d_M_learn_198  (by decide) ?_
    exact rj_sub [1, 2, 3, 4, 5, 6, 7, 0] rfl (P_M_learn_200 hX hM hR hrec191 FUEL _ _ _ _ _ _ _ _ _ h)
def F_M_learn_191 : Nat → Nat → Int32 → Int32 → Int32 → Int32 → Int32 → Int32 → AW → Option (Int32 × AW)
  | 0 => fun _ _ _ _ _ _ _ _ => none
  | n + 1 => fun a0 x3 x4 x5 x6 x7 x8 w => F_M_learn_191_B (F_M_learn_191 n) a0 x3 x4 x5 x6 x7 x8 w
theorem P_M_learn_191 {X : AX} {l : Launch} {G : AG} (hX : XOK X b_M_learn "RedSkyModel" 11) (hM : XM X l G { frames := 6, cells := 0, slots := 0, locals := 140 }) {o : Int32 × AW} (hR : XR X (some .int) 0 0 (some (vi o.1)) o.2) (fu : Nat) : ∀ (a0 : Nat) (x3 : Int32) (x4 : Int32) (x5 : Int32) (x6 : Int32) (x7 : Int32) (x8 : Int32) (w : AW), F_M_learn_191 fu a0 x3 x4 x5 x6 x7 x8 w = some o → RJ X 11 0 0 191 [(0, vr a0), (3, vi x3), (4, vi x4), (5, vi x5), (6, vi x6), (7, vi x7), (8, vi x8)] [] w := by
  induction fu with
  | zero => intro a0 x3 x4 x5 x6 x7 x8 w h; cases h
  | succ n9 ih => intro a0 x3 x4 x5 x6 x7 x8 w h; exact P_M_learn_191_B hX hM hR ih _ _ _ _ _ _ _ _ h
def F_M_learn_153 (rec71 : Nat → Int32 → Int32 → Int32 → Int32 → Int32 → AW → Option (Int32 × AW)) (rec105 : Nat → Int32 → Int32 → Int32 → Int32 → Int32 → Int32 → AW → Option (Int32 × AW)) (a0 : Nat) (x1 : Int32) (x2 : Int32) (x3 : Int32) (x4 : Int32) (x5 : Int32) (x6 : Int32) (s2 : Int32) (s1 : Int32) (s0 : Nat) (w : AW) : Option (Int32 × AW) :=
  gd (wk w s0 == 100) <|
  gd (inb s1 (wn w s0)) <|
  let w3 : AW := upI w s0 (Int32.toNatClampNeg s1) (s2 ||| (0 : Int32))
  let v4 : Int32 := (x6 + (1 : Int32))
  rec105 a0 x1 x2 x3 x4 x5 v4 w3
theorem P_M_learn_153 {X : AX} {l : Launch} {G : AG} {rec71 : Nat → Int32 → Int32 → Int32 → Int32 → Int32 → AW → Option (Int32 × AW)} {rec105 : Nat → Int32 → Int32 → Int32 → Int32 → Int32 → Int32 → AW → Option (Int32 × AW)} (hX : XOK X b_M_learn "RedSkyModel" 11) (hM : XM X l G { frames := 6, cells := 0, slots := 0, locals := 140 }) {o : Int32 × AW} (hR : XR X (some .int) 0 0 (some (vi o.1)) o.2) (hrec71 : ∀ (a0 : Nat) (x1 : Int32) (x2 : Int32) (x3 : Int32) (x4 : Int32) (x5 : Int32) (w : AW), rec71 a0 x1 x2 x3 x4 x5 w = some o → RJ X 11 0 0 71 [(0, vr a0), (1, vi x1), (2, vi x2), (3, vi x3), (4, vi x4), (5, vi x5)] [] w) (hrec105 : ∀ (a0 : Nat) (x1 : Int32) (x2 : Int32) (x3 : Int32) (x4 : Int32) (x5 : Int32) (x6 : Int32) (w : AW), rec105 a0 x1 x2 x3 x4 x5 x6 w = some o → RJ X 11 0 0 105 [(0, vr a0), (1, vi x1), (2, vi x2), (3, vi x3), (4, vi x4), (5, vi x5), (6, vi x6)] [] w) (a0 : Nat) (x1 : Int32) (x2 : Int32) (x3 : Int32) (x4 : Int32) (x5 : Int32) (x6 : Int32) (s2 : Int32) (s1 : Int32) (s0 : Nat) (w : AW) (h : F_M_learn_153 rec71 rec105 a0 x1 x2 x3 x4 x5 x6 s2 s1 s0 w = some o) : RJ X 11 0 0 153 [(0, vr a0), (1, vi x1), (2, vi x2), (3, vi x3), (4, vi x4), (5, vi x5), (6, vi x6)] [vi s2, vi s1, vr s0] w := by
  unfold F_M_learn_153 at h
  refine r_iconst (v := (0 : Int32)) hX d_M_learn_153 rfl ?_
  refine r_ior hX d_M_learn_154 ?_
  obtain ⟨hk1, h⟩ := gd_e h
  obtain ⟨hg2, h⟩ := gd_e h
  refine r_iast hX hk1 hg2 d_M_learn_155 ?_
  refine r_iinc (i := 6) (v := (1 : Int32)) hX d_M_learn_156 6 rfl rfl (by decide) ?_
  refine r_goto hX d_M_learn_159 rfl ?_
  exact rj_sub [1, 2, 3, 4, 5, 6, 0] rfl (hrec105 _ _ _ _ _ _ _ _ h)
def F_M_learn_105_B (rec71 : Nat → Int32 → Int32 → Int32 → Int32 → Int32 → AW → Option (Int32 × AW)) (rec105 : Nat → Int32 → Int32 → Int32 → Int32 → Int32 → Int32 → AW → Option (Int32 × AW)) (a0 : Nat) (x1 : Int32) (x2 : Int32) (x3 : Int32) (x4 : Int32) (x5 : Int32) (x6 : Int32) (w : AW) : Option (Int32 × AW) :=
  gd (wk w a0 == 13) <|
  if (wi w a0 29) ≤ x6 then
    let v2 : Int32 := (x5 + (1 : Int32))
    rec71 a0 x1 x2 x3 x4 v2 w
  else
    gd (wk w (wr w a0 42) == 100) <|
    gd (inb x5 (wn w (wr w a0 42))) <|
    (F_M_firstOf a0 x6 x1 x5 w).bind fun r5 =>
    if r5.1 = (1 : Int32) then
      gd (wk r5.2 a0 == 13) <|
      (F_M_isInSeason r5.2 a0 x6 x5).bind fun r8 =>
      if r8 = 0 then
        F_M_learn_153 rec71 rec105 a0 x1 x2 x3 x4 x5 x6 (wi w (wr w a0 42) (Int32.toNatClampNeg x5)) x5 (wr w a0 42) r5.2
      else
        gd (wk r5.2 (wr w a0 42) == 100) <|
        gd (inb x5 (wn r5.2 (wr w a0 42))) <|
        let w12 : AW := upI r5.2 (wr w a0 42) (Int32.toNatClampNeg x5) ((wi w (wr w a0 42) (Int32.toNatClampNeg x5)) ||| ((1 : Int32) <<< (x6 &&& 31)))
        let v13 : Int32 := (x6 + (1 : Int32))
        rec105 a0 x1 x2 x3 x4 x5 v13 w12
    else
      F_M_learn_153 rec71 rec105 a0 x1 x2 x3 x4 x5 x6 (wi w (wr w a0 42) (Int32.toNatClampNeg x5)) x5 (wr w a0 42) r5.2
theorem P_M_learn_105_B {X : AX} {l : Launch} {G : AG} {rec71 : Nat → Int32 → Int32 → Int32 → Int32 → Int32 → AW → Option (Int32 × AW)} {rec105 : Nat → Int32 → Int32 → Int32 → Int32 → Int32 → Int32 → AW → Option (Int32 × AW)} (hX : XOK X b_M_learn "RedSkyModel" 11) (hM : XM X l G { frames := 6, cells := 0, slots := 0, locals := 140 }) {o : Int32 × AW} (hR : XR X (some .int) 0 0 (some (vi o.1)) o.2) (hrec71 : ∀ (a0 : Nat) (x1 : Int32) (x2 : Int32) (x3 : Int32) (x4 : Int32) (x5 : Int32) (w : AW), rec71 a0 x1 x2 x3 x4 x5 w = some o → RJ X 11 0 0 71 [(0, vr a0), (1, vi x1), (2, vi x2), (3, vi x3), (4, vi x4), (5, vi x5)] [] w) (hrec105 : ∀ (a0 : Nat) (x1 : Int32) (x2 : Int32) (x3 : Int32) (x4 : Int32) (x5 : Int32) (x6 : Int32) (w : AW), rec105 a0 x1 x2 x3 x4 x5 x6 w = some o → RJ X 11 0 0 105 [(0, vr a0), (1, vi x1), (2, vi x2), (3, vi x3), (4, vi x4), (5, vi x5), (6, vi x6)] [] w) (a0 : Nat) (x1 : Int32) (x2 : Int32) (x3 : Int32) (x4 : Int32) (x5 : Int32) (x6 : Int32) (w : AW) (h : F_M_learn_105_B rec71 rec105 a0 x1 x2 x3 x4 x5 x6 w = some o) : RJ X 11 0 0 105 [(0, vr a0), (1, vi x1), (2, vi x2), (3, vi x3), (4, vi x4), (5, vi x5), (6, vi x6)] [] w := by
  unfold F_M_learn_105_B at h
  refine r_iload (i := 6) hX d_M_learn_105 6  rfl ?_
  refine r_aload_n (i := 0) hX d_M_learn_107 0 rfl rfl ?_
  obtain ⟨hk1, h⟩ := gd_e h
  refine r_getI (i := 12) (f := 29) hX ci_12 (by decide) rfl fl_M_294 hk1 d_M_learn_108 ?_
  refine r_icmp_ge hX d_M_learn_111 rfl h (fun h => ?_) (fun h => ?_)
  · refine r_iinc (i := 5) (v := (1 : Int32)) hX d_M_learn_162 5 rfl rfl (by decide) ?_
    refine r_goto hX d_M_learn_165 rfl ?_
    exact rj_sub [1, 2, 3, 4, 5, 0] rfl (hrec71 _ _ _ _ _ _ _ h)
  · refine r_aload_n (i := 0) hX d_M_learn_114 0 rfl rfl ?_
    refine r_getR (i := 12) (f := 42) hX ci_12 (by decide) rfl fl_M_77 hk1 d_M_learn_115 ?_
    refine r_iload (i := 5) hX d_M_learn_118 5  rfl ?_
    refine r_dup2 hX d_M_learn_120 rfl rfl ?_
    obtain ⟨hk3, h⟩ := gd_e h
    obtain ⟨hg4, h⟩ := gd_e h
    refine r_iald hX hk3 hg4 d_M_learn_121 ?_
    refine r_aload_n (i := 0) hX d_M_learn_122 0 rfl rfl ?_
    refine r_iload (i := 6) hX d_M_learn_123 6  rfl ?_
    refine r_iload_n (i := 1) hX d_M_learn_125 1 rfl rfl ?_
    refine r_iload (i := 5) hX d_M_learn_126 5  rfl ?_
    obtain ⟨r5, hr6, h⟩ := bd_e h
    refine r_callV1 (As := [_, _, _]) hX hM mw_M_318 (T_M_firstOf _ _ _ _ _ hr6) (rc_of ci_12 hk1) rfl rfl ⟨Nat.le_refl _, Nat.le_refl _⟩ rfl rfl d_M_learn_128 ?_
    refine r_iconst (v := (1 : Int32)) hX d_M_learn_131 rfl ?_
    refine r_icmp_ne hX d_M_learn_132 rfl h (fun h => ?_) (fun h => ?_)
    · exact rj_sub [0, 1, 2, 3, 4, 5, 6] rfl (P_M_learn_153 hX hM hR hrec71 hrec105 _ _ _ _ _ _ _ _ _ _ _ h)
    · refine r_aload_n (i := 0) hX d_M_learn_135 0 rfl rfl ?_
      refine r_iload (i := 6) hX d_M_learn_136 6  rfl ?_
      refine r_iload (i := 5) hX d_M_learn_138 5  rfl ?_
      obtain ⟨hk7, h⟩ := gd_e h
      obtain ⟨r8, hr9, h⟩ := bd_e h
      refine r_callV1 (As := [_, _]) hX hM mw_M_324 (T_M_isInSeason _ _ _ _ hr9) (rc_of ci_12 hk7) rfl rfl ⟨Nat.le_refl _, Nat.le_refl _⟩ rfl rfl d_M_learn_140 ?_
      refine r_if_eq hX d_M_learn_143 rfl h (fun h => ?_) (fun h => ?_)
      · exact rj_sub [0, 1, 2, 3, 4, 5, 6] rfl (P_M_learn_153 hX hM hR hrec71 hrec105 _ _ _ _ _ _ _ _ _ _ _ h)
      · refine r_iconst (v := (1 : Int32)) hX d_M_learn_146 rfl ?_
        refine r_iload (i := 6) hX d_M_learn_147 6  rfl ?_
        refine r_ishl hX d_M_learn_149 ?_
        refine r_goto hX d_M_learn_150 rfl ?_
        refine r_ior hX d_M_learn_154 ?_
        obtain ⟨hk10, h⟩ := gd_e h
        obtain ⟨hg11, h⟩ := gd_e h
        refine r_iast hX hk10 hg11 d_M_learn_155 ?_
        refine r_iinc (i := 6) (v := (1 : Int32)) hX d_M_learn_156 6 rfl rfl (by decide) ?_
        refine r_goto hX d_M_learn_159 rfl ?_
        exact rj_sub [1, 2, 3, 4, 5, 6, 0] rfl (hrec105 _ _ _ _ _ _ _ _ h)
def F_M_learn_105 (rec71 : Nat → Int32 → Int32 → Int32 → Int32 → Int32 → AW → Option (Int32 × AW)) : Nat → Nat → Int32 → Int32 → Int32 → Int32 → Int32 → Int32 → AW → Option (Int32 × AW)
  | 0 => fun _ _ _ _ _ _ _ _ => none
  | n + 1 => fun a0 x1 x2 x3 x4 x5 x6 w => F_M_learn_105_B rec71 (F_M_learn_105 rec71 n) a0 x1 x2 x3 x4 x5 x6 w
theorem P_M_learn_105 {X : AX} {l : Launch} {G : AG} {rec71 : Nat → Int32 → Int32 → Int32 → Int32 → Int32 → AW → Option (Int32 × AW)} (hX : XOK X b_M_learn "RedSkyModel" 11) (hM : XM X l G { frames := 6, cells := 0, slots := 0, locals := 140 }) {o : Int32 × AW} (hR : XR X (some .int) 0 0 (some (vi o.1)) o.2) (hrec71 : ∀ (a0 : Nat) (x1 : Int32) (x2 : Int32) (x3 : Int32) (x4 : Int32) (x5 : Int32) (w : AW), rec71 a0 x1 x2 x3 x4 x5 w = some o → RJ X 11 0 0 71 [(0, vr a0), (1, vi x1), (2, vi x2), (3, vi x3), (4, vi x4), (5, vi x5)] [] w) (fu : Nat) : ∀ (a0 : Nat) (x1 : Int32) (x2 : Int32) (x3 : Int32) (x4 : Int32) (x5 : Int32) (x6 : Int32) (w : AW), F_M_learn_105 rec71 fu a0 x1 x2 x3 x4 x5 x6 w = some o → RJ X 11 0 0 105 [(0, vr a0), (1, vi x1), (2, vi x2), (3, vi x3), (4, vi x4), (5, vi x5), (6, vi x6)] [] w := by
  induction fu with
  | zero => intro a0 x1 x2 x3 x4 x5 x6 w h; cases h
  | succ n9 ih => intro a0 x1 x2 x3 x4 x5 x6 w h; exact P_M_learn_105_B hX hM hR hrec71 ih _ _ _ _ _ _ _ _ h
def F_M_learn_71_B (rec71 : Nat → Int32 → Int32 → Int32 → Int32 → Int32 → AW → Option (Int32 × AW)) (a0 : Nat) (x1 : Int32) (x2 : Int32) (x3 : Int32) (x4 : Int32) (x5 : Int32) (w : AW) : Option (Int32 × AW) :=
  if (1461 : Int32) ≤ x5 then
    gd (wk w a0 == 13) <|
    (F_M_countBy a0 x4 (-1 : Int32) (-1 : Int32) w).bind fun r2 =>
    gd (wk r2 a0 == 13) <|
    (F_M_rightOf r2 a0).bind fun r5 =>
    F_M_learn_191 FUEL a0 x3 x4 (-1 : Int32) (-1 : Int32) r5 (1 : Int32) r2
  else
    gd (wk w a0 == 13) <|
    (F_M_secondOf a0 x2 x1 x5 w).bind fun r8 =>
    gd (wk r8.2 (wr w a0 43) == 100) <|
    gd (inb x5 (wn r8.2 (wr w a0 43))) <|
    let w12 : AW := upI r8.2 (wr w a0 43) (Int32.toNatClampNeg x5) r8.1
    gd (wk w12 a0 == 13) <|
    gd (wk w12 (wr w12 a0 42) == 100) <|
    gd (inb x5 (wn w12 (wr w12 a0 42))) <|
    let w16 : AW := upI w12 (wr w12 a0 42) (Int32.toNatClampNeg x5) (0 : Int32)
    F_M_learn_105 rec71 FUEL a0 x1 x2 x3 x4 x5 (0 : Int32) w16
theorem P_M_learn_71_B {X : AX} {l : Launch} {G : AG} {rec71 : Nat → Int32 → Int32 → Int32 → Int32 → Int32 → AW → Option (Int32 × AW)} (hX : XOK X b_M_learn "RedSkyModel" 11) (hM : XM X l G { frames := 6, cells := 0, slots := 0, locals := 140 }) {o : Int32 × AW} (hR : XR X (some .int) 0 0 (some (vi o.1)) o.2) (hrec71 : ∀ (a0 : Nat) (x1 : Int32) (x2 : Int32) (x3 : Int32) (x4 : Int32) (x5 : Int32) (w : AW), rec71 a0 x1 x2 x3 x4 x5 w = some o → RJ X 11 0 0 71 [(0, vr a0), (1, vi x1), (2, vi x2), (3, vi x3), (4, vi x4), (5, vi x5)] [] w) (a0 : Nat) (x1 : Int32) (x2 : Int32) (x3 : Int32) (x4 : Int32) (x5 : Int32) (w : AW) (h : F_M_learn_71_B rec71 a0 x1 x2 x3 x4 x5 w = some o) : RJ X 11 0 0 71 [(0, vr a0), (1, vi x1), (2, vi x2), (3, vi x3), (4, vi x4), (5, vi x5)] [] w := by
  unfold F_M_learn_71_B at h
  refine r_iload (i := 5) hX d_M_learn_71 5  rfl ?_
  refine r_sipush (v := (1461 : Int32)) hX d_M_learn_73 rfl ?_
  refine r_icmp_ge hX d_M_learn_76 rfl h (fun h => ?_) (fun h => ?_)
  · refine r_iconst (v := (-1 : Int32)) hX d_M_learn_168 rfl ?_
    refine r_istore (i := 5) hX d_M_learn_169  (by decide) ?_
    refine r_iconst (v := (-1 : Int32)) hX d_M_learn_171 rfl ?_
    refine r_istore (i := 6) hX d_M_learn_172  (by decide) ?_
    refine r_aload_n (i := 0) hX d_M_learn_174 2 rfl rfl ?_
    refine r_iload (i := 4) hX d_M_learn_175 6  rfl ?_
    refine r_iconst (v := (-1 : Int32)) hX d_M_learn_177 rfl ?_
    refine r_iconst (v := (-1 : Int32)) hX d_M_learn_178 rfl ?_
    obtain ⟨hk1, h⟩ := gd_e h
    obtain ⟨r2, hr3, h⟩ := bd_e h
    refine r_callV0 (As := [_, _, _]) hX hM mw_M_357 (T_M_countBy _ _ _ _ _ hr3) (rc_of ci_12 hk1) rfl rfl ⟨Nat.le_refl _, Nat.le_refl _⟩ rfl rfl d_M_learn_179 ?_
    refine r_aload_n (i := 0) hX d_M_learn_182 2 rfl rfl ?_
    obtain ⟨hk4, h⟩ := gd_e h
    obtain ⟨r5, hr6, h⟩ := bd_e h
    refine r_callV1 (As := []) hX hM mw_M_361 (T_M_rightOf _ _ hr6) (rc_of ci_12 hk4) rfl rfl ⟨Nat.le_refl _, Nat.le_refl _⟩ rfl rfl d_M_learn_183 ?_
    refine r_istore (i := 7) hX d_M_learn_186  (by decide) ?_
    refine r_iconst (v := (1 : Int32)) hX d_M_learn_188 rfl ?_
    refine r_istore (i := 8) hX d_M_learn_189  (by decide) ?_
    exact rj_sub [4, 7, 8, 3, 2, 1, 0] rfl (P_M_learn_191 hX hM hR FUEL _ _ _ _ _ _ _ _ h)
  · refine r_aload_n (i := 0) hX d_M_learn_79 0 rfl rfl ?_
    obtain ⟨hk7, h⟩ := gd_e h
    refine r_getR (i := 12) (f := 43) hX ci_12 (by decide) rfl fl_M_80 hk7 d_M_learn_80 ?_
    refine r_iload (i := 5) hX d_M_learn_83 5  rfl ?_
    refine r_aload_n (i := 0) hX d_M_learn_85 0 rfl rfl ?_
    refine r_iload_n (i := 2) hX d_M_learn_86 2 rfl rfl ?_
    refine r_iload_n (i := 1) hX d_M_learn_87 1 rfl rfl ?_
    refine r_iload (i := 5) hX d_M_learn_88 5  rfl ?_
    obtain ⟨r8, hr9, h⟩ := bd_e h
    refine r_callV1 (As := [_, _, _]) hX hM mw_M_321 (T_M_secondOf _ _ _ _ _ hr9) (rc_of ci_12 hk7) rfl rfl ⟨Nat.le_refl _, Nat.le_refl _⟩ rfl rfl d_M_learn_90 ?_
    obtain ⟨hk10, h⟩ := gd_e h
    obtain ⟨hg11, h⟩ := gd_e h
    refine r_iast hX hk10 hg11 d_M_learn_93 ?_
    refine r_aload_n (i := 0) hX d_M_learn_94 0 rfl rfl ?_
    obtain ⟨hk13, h⟩ := gd_e h
    refine r_getR (i := 12) (f := 42) hX ci_12 (by decide) rfl fl_M_77 hk13 d_M_learn_95 ?_
    refine r_iload (i := 5) hX d_M_learn_98 5  rfl ?_
    refine r_iconst (v := (0 : Int32)) hX d_M_learn_100 rfl ?_
    obtain ⟨hk14, h⟩ := gd_e h
    obtain ⟨hg15, h⟩ := gd_e h
    refine r_iast hX hk14 hg15 d_M_learn_101 ?_
    refine r_iconst (v := (0 : Int32)) hX d_M_learn_102 rfl ?_
    refine r_istore (i := 6) hX d_M_learn_103  (by decide) ?_
    exact rj_sub [1, 2, 3, 4, 5, 6, 0] rfl (P_M_learn_105 hX hM hR hrec71 FUEL _ _ _ _ _ _ _ _ h)
def F_M_learn_71 : Nat → Nat → Int32 → Int32 → Int32 → Int32 → Int32 → AW → Option (Int32 × AW)
  | 0 => fun _ _ _ _ _ _ _ => none
  | n + 1 => fun a0 x1 x2 x3 x4 x5 w => F_M_learn_71_B (F_M_learn_71 n) a0 x1 x2 x3 x4 x5 w
theorem P_M_learn_71 {X : AX} {l : Launch} {G : AG} (hX : XOK X b_M_learn "RedSkyModel" 11) (hM : XM X l G { frames := 6, cells := 0, slots := 0, locals := 140 }) {o : Int32 × AW} (hR : XR X (some .int) 0 0 (some (vi o.1)) o.2) (fu : Nat) : ∀ (a0 : Nat) (x1 : Int32) (x2 : Int32) (x3 : Int32) (x4 : Int32) (x5 : Int32) (w : AW), F_M_learn_71 fu a0 x1 x2 x3 x4 x5 w = some o → RJ X 11 0 0 71 [(0, vr a0), (1, vi x1), (2, vi x2), (3, vi x3), (4, vi x4), (5, vi x5)] [] w := by
  induction fu with
  | zero => intro a0 x1 x2 x3 x4 x5 w h; cases h
  | succ n9 ih => intro a0 x1 x2 x3 x4 x5 w h; exact P_M_learn_71_B hX hM hR ih _ _ _ _ _ _ _ h
def F_M_learn (a0 : Nat) (x1 : Int32) (x2 : Int32) (x3 : Int32) (x4 : Int32) (w : AW) : Option (Int32 × AW) :=
  if (F_M_isValley x1) = 0 then
    some ((-101 : Int32), w)
  else
    gd (wk w a0 == 13) <|
    (F_M_isSaying w a0 x2).bind fun r2 =>
    if r2 = 0 then
      some ((-101 : Int32), w)
    else
      if (F_M_in (Int32.toInt64 x3) (0 : Int64) (2 : Int64)) = 0 then
        some ((-102 : Int32), w)
      else
        if (F_M_in (Int32.toInt64 x4) (0 : Int64) (15 : Int64)) = 0 then
          some ((-102 : Int32), w)
        else
          if (wi w a0 40) = (12 : Int32) then
            some ((-103 : Int32), w)
          else
            let w4 : AW := upI w a0 40 ((wi w a0 40) + (1 : Int32))
            F_M_learn_71 FUEL a0 x1 x2 x3 x4 (0 : Int32) w4
theorem P_M_learn_0 {X : AX} {l : Launch} {G : AG} (hX : XOK X b_M_learn "RedSkyModel" 11) (hM : XM X l G { frames := 6, cells := 0, slots := 0, locals := 140 }) {o : Int32 × AW} (hR : XR X (some .int) 0 0 (some (vi o.1)) o.2) (a0 : Nat) (x1 : Int32) (x2 : Int32) (x3 : Int32) (x4 : Int32) (w : AW) (h : F_M_learn a0 x1 x2 x3 x4 w = some o) : RJ X 11 0 0 0 [(0, vr a0), (1, vi x1), (2, vi x2), (3, vi x3), (4, vi x4)] [] w := by
  unfold F_M_learn at h
  refine r_iload_n (i := 1) hX d_M_learn_0 1 rfl rfl ?_
  refine r_callS1 (As := [_]) hX hM mw_M_155 (T_M_isValley _ _) rfl rfl ⟨Nat.le_refl _, Nat.le_refl _⟩ rfl rfl d_M_learn_1 ?_
  refine r_if_eq hX d_M_learn_4 rfl h (fun h => ?_) (fun h => ?_)
  · refine r_bipush (v := (-101 : Int32)) hX d_M_learn_15 rfl ?_
    cases h; exact r_iret hX hR d_M_learn_17
  · refine r_aload_n (i := 0) hX d_M_learn_7 0 rfl rfl ?_
    refine r_iload_n (i := 2) hX d_M_learn_8 2 rfl rfl ?_
    obtain ⟨hk1, h⟩ := gd_e h
    obtain ⟨r2, hr3, h⟩ := bd_e h
    refine r_callV1 (As := [_]) hX hM mw_M_306 (T_M_isSaying _ _ _ hr3) (rc_of ci_12 hk1) rfl rfl ⟨Nat.le_refl _, Nat.le_refl _⟩ rfl rfl d_M_learn_9 ?_
    refine r_if_ne hX d_M_learn_12 rfl h (fun h => ?_) (fun h => ?_)
    · refine r_iload_n (i := 3) hX d_M_learn_18 3 rfl rfl ?_
      refine r_i2l hX d_M_learn_19 ?_
      refine r_lconst (v := (0 : Int64)) hX d_M_learn_20 rfl ?_
      refine r_ldc2 hX d_M_learn_21 cw_M_151 ?_
      refine r_callS1 (As := [_, _, _]) hX hM mw_M_122 (T_M_in _ _ _ _) rfl rfl ⟨Nat.le_refl _, Nat.le_refl _⟩ rfl rfl d_M_learn_24 ?_
      refine r_if_eq hX d_M_learn_27 rfl h (fun h => ?_) (fun h => ?_)
      · refine r_bipush (v := (-102 : Int32)) hX d_M_learn_43 rfl ?_
        cases h; exact r_iret hX hR d_M_learn_45
      · refine r_iload (i := 4) hX d_M_learn_30 4  rfl ?_
        refine r_i2l hX d_M_learn_32 ?_
        refine r_lconst (v := (0 : Int64)) hX d_M_learn_33 rfl ?_
        refine r_ldc2 hX d_M_learn_34 cw_M_352 ?_
        refine r_callS1 (As := [_, _, _]) hX hM mw_M_122 (T_M_in _ _ _ _) rfl rfl ⟨Nat.le_refl _, Nat.le_refl _⟩ rfl rfl d_M_learn_37 ?_
        refine r_if_ne hX d_M_learn_40 rfl h (fun h => ?_) (fun h => ?_)
        · refine r_aload_n (i := 0) hX d_M_learn_46 0 rfl rfl ?_
          refine r_getI (i := 12) (f := 40) hX ci_12 (by decide) rfl fl_M_354 hk1 d_M_learn_47 ?_
          refine r_bipush (v := (12 : Int32)) hX d_M_learn_50 rfl ?_
          refine r_icmp_ne hX d_M_learn_52 rfl h (fun h => ?_) (fun h => ?_)
          · refine r_aload_n (i := 0) hX d_M_learn_58 0 rfl rfl ?_
            refine r_dup hX d_M_learn_59 rfl ?_
            refine r_getI (i := 12) (f := 40) hX ci_12 (by decide) rfl fl_M_354 hk1 d_M_learn_60 ?_
            refine r_iconst (v := (1 : Int32)) hX d_M_learn_63 rfl ?_
            refine r_iadd hX d_M_learn_64 ?_
            refine r_putI (i := 12) (f := 40) hX ci_12 (by decide) rfl rfl (fun G => rfl) (fun G => rfl) fl_M_354 hk1 d_M_learn_65 ?_
            refine r_iconst (v := (0 : Int32)) hX d_M_learn_68 rfl ?_
            refine r_istore (i := 5) hX d_M_learn_69  (by decide) ?_
            exact rj_sub [1, 2, 3, 4, 5, 0] rfl (P_M_learn_71 hX hM hR FUEL _ _ _ _ _ _ _ h)
          · refine r_bipush (v := (-103 : Int32)) hX d_M_learn_55 rfl ?_
            cases h; exact r_iret hX hR d_M_learn_57
        · refine r_bipush (v := (-102 : Int32)) hX d_M_learn_43 rfl ?_
          cases h; exact r_iret hX hR d_M_learn_45
    · refine r_bipush (v := (-101 : Int32)) hX d_M_learn_15 rfl ?_
      cases h; exact r_iret hX hR d_M_learn_17
theorem T_M_learn {l : Launch} {G : AG} (a0 : Nat) (x1 : Int32) (x2 : Int32) (x3 : Int32) (x4 : Int32) (w : AW) {o : Int32 × AW} (h : F_M_learn a0 x1 x2 x3 x4 w = some o) : Mt l G y_M_learn b_M_learn 11 (some (.int)) 6 140 0 0 [vr a0, vi x1, vi x2, vi x3, vi x4] w (some (vi o.1)) o.2 := mt_of (by decide) (Nat.le_of_ble_eq_true rfl) (fun X hX hR hM hI => P_M_learn_0 hX hM hR _ _ _ _ _ _ h)
/-! RedSky$Learner.entryAt(I)I -/
theorem d_Le_entryAt_0 : decode b_Le_entryAt 0 = .ok (.iload_n 1, 1) := by decide +kernel
theorem d_Le_entryAt_1 : decode b_Le_entryAt 1 = .ok (.ifCond .lt (16), 3) := by decide +kernel
theorem d_Le_entryAt_4 : decode b_Le_entryAt 4 = .ok (.iload_n 1, 1) := by decide +kernel
theorem d_Le_entryAt_5 : decode b_Le_entryAt 5 = .ok (.aload_n 0, 1) := by decide +kernel
theorem d_Le_entryAt_6 : decode b_Le_entryAt 6 = .ok (.getfield 52, 3) := by decide +kernel
theorem d_Le_entryAt_9 : decode b_Le_entryAt 9 = .ok (.if_icmp .ge (8), 3) := by decide +kernel
theorem d_Le_entryAt_12 : decode b_Le_entryAt 12 = .ok (.iload_n 1, 1) := by decide +kernel
theorem d_Le_entryAt_13 : decode b_Le_entryAt 13 = .ok (.iconst 2, 1) := by decide +kernel
theorem d_Le_entryAt_14 : decode b_Le_entryAt 14 = .ok (.if_icmp .lt (5), 3) := by decide +kernel
theorem d_Le_entryAt_17 : decode b_Le_entryAt 17 = .ok (.iconst (-1), 1) := by decide +kernel
theorem d_Le_entryAt_18 : decode b_Le_entryAt 18 = .ok (.ireturn, 1) := by decide +kernel
theorem d_Le_entryAt_19 : decode b_Le_entryAt 19 = .ok (.iconst 2, 1) := by decide +kernel
theorem d_Le_entryAt_20 : decode b_Le_entryAt 20 = .ok (.aload_n 0, 1) := by decide +kernel
theorem d_Le_entryAt_21 : decode b_Le_entryAt 21 = .ok (.getfield 45, 3) := by decide +kernel
theorem d_Le_entryAt_24 : decode b_Le_entryAt 24 = .ok (.iload_n 1, 1) := by decide +kernel
theorem d_Le_entryAt_25 : decode b_Le_entryAt 25 = .ok (.iaload, 1) := by decide +kernel
theorem d_Le_entryAt_26 : decode b_Le_entryAt 26 = .ok (.imul, 1) := by decide +kernel
theorem d_Le_entryAt_27 : decode b_Le_entryAt 27 = .ok (.aload_n 0, 1) := by decide +kernel
theorem d_Le_entryAt_28 : decode b_Le_entryAt 28 = .ok (.getfield 48, 3) := by decide +kernel
theorem d_Le_entryAt_31 : decode b_Le_entryAt 31 = .ok (.iload_n 1, 1) := by decide +kernel
theorem d_Le_entryAt_32 : decode b_Le_entryAt 32 = .ok (.baload, 1) := by decide +kernel
theorem d_Le_entryAt_33 : decode b_Le_entryAt 33 = .ok (.ifCond .eq (7), 3) := by decide +kernel
theorem d_Le_entryAt_36 : decode b_Le_entryAt 36 = .ok (.iconst 1, 1) := by decide +kernel
theorem d_Le_entryAt_37 : decode b_Le_entryAt 37 = .ok (.goto (4), 3) := by decide +kernel
theorem d_Le_entryAt_40 : decode b_Le_entryAt 40 = .ok (.iconst 0, 1) := by decide +kernel
theorem d_Le_entryAt_41 : decode b_Le_entryAt 41 = .ok (.iadd, 1) := by decide +kernel
theorem d_Le_entryAt_42 : decode b_Le_entryAt 42 = .ok (.ireturn, 1) := by decide +kernel
def F_Le_entryAt (w : AW) (a0 : Nat) (x1 : Int32) : Option (Int32) :=
  if x1 < 0 then
    some (-1 : Int32)
  else
    gd (wk w a0 == 10) <|
    if (wi w a0 11) ≤ x1 then
      some (-1 : Int32)
    else
      if x1 < (2 : Int32) then
        gd (wk w (wr w a0 9) == 100) <|
        gd (inb x1 (wn w (wr w a0 9))) <|
        gd (wk w (wr w a0 10) == 104) <|
        gd (inb x1 (wn w (wr w a0 10))) <|
        if (wi w (wr w a0 10) (Int32.toNatClampNeg x1)) = 0 then
          some (((2 : Int32) * (wi w (wr w a0 9) (Int32.toNatClampNeg x1))) + (0 : Int32))
        else
          some (((2 : Int32) * (wi w (wr w a0 9) (Int32.toNatClampNeg x1))) + (1 : Int32))
      else
        some (-1 : Int32)
theorem P_Le_entryAt_0 {X : AX} {l : Launch} {G : AG} {w : AW} (hX : XOK X b_Le_entryAt "RedSky$Learner" 2) (hM : XM X l G { frames := 0, cells := 0, slots := 0, locals := 0 }) {o : Int32} (hR : XR X (some .int) 0 0 (some (vi o)) w) (a0 : Nat) (x1 : Int32) (h : F_Le_entryAt w a0 x1 = some o) : RJ X 2 0 0 0 [(0, vr a0), (1, vi x1)] [] w := by
  unfold F_Le_entryAt at h
  refine r_iload_n (i := 1) hX d_Le_entryAt_0 1 rfl rfl ?_
  refine r_if_lt hX d_Le_entryAt_1 rfl h (fun h => ?_) (fun h => ?_)
  · refine r_iconst (v := (-1 : Int32)) hX d_Le_entryAt_17 rfl ?_
    cases h; exact r_iret hX hR d_Le_entryAt_18
  · refine r_iload_n (i := 1) hX d_Le_entryAt_4 1 rfl rfl ?_
    refine r_aload_n (i := 0) hX d_Le_entryAt_5 0 rfl rfl ?_
    obtain ⟨hk1, h⟩ := gd_e h
    refine r_getI (i := 9) (f := 11) hX ci_9 (by decide) rfl fl_Le_52 hk1 d_Le_entryAt_6 ?_
    refine r_icmp_ge hX d_Le_entryAt_9 rfl h (fun h => ?_) (fun h => ?_)
    · refine r_iconst (v := (-1 : Int32)) hX d_Le_entryAt_17 rfl ?_
      cases h; exact r_iret hX hR d_Le_entryAt_18
    · refine r_iload_n (i := 1) hX d_Le_entryAt_12 1 rfl rfl ?_
      refine r_iconst (v := (2 : Int32)) hX d_Le_entryAt_13 rfl ?_
      refine r_icmp_lt hX d_Le_entryAt_14 rfl h (fun h => ?_) (fun h => ?_)
      · refine r_iconst (v := (2 : Int32)) hX d_Le_entryAt_19 rfl ?_
        refine r_aload_n (i := 0) hX d_Le_entryAt_20 0 rfl rfl ?_
        refine r_getR (i := 9) (f := 9) hX ci_9 (by decide) rfl fl_Le_45 hk1 d_Le_entryAt_21 ?_
        refine r_iload_n (i := 1) hX d_Le_entryAt_24 1 rfl rfl ?_
        obtain ⟨hk2, h⟩ := gd_e h
        obtain ⟨hg3, h⟩ := gd_e h
        refine r_iald hX hk2 hg3 d_Le_entryAt_25 ?_
        refine r_imul hX d_Le_entryAt_26 ?_
        refine r_aload_n (i := 0) hX d_Le_entryAt_27 0 rfl rfl ?_
        refine r_getR (i := 9) (f := 10) hX ci_9 (by decide) rfl fl_Le_48 hk1 d_Le_entryAt_28 ?_
        refine r_iload_n (i := 1) hX d_Le_entryAt_31 1 rfl rfl ?_
        obtain ⟨hk4, h⟩ := gd_e h
        obtain ⟨hg5, h⟩ := gd_e h
        refine r_zald hX hk4 hg5 d_Le_entryAt_32 ?_
        refine r_if_eq hX d_Le_entryAt_33 rfl h (fun h => ?_) (fun h => ?_)
        · refine r_iconst (v := (0 : Int32)) hX d_Le_entryAt_40 rfl ?_
          refine r_iadd hX d_Le_entryAt_41 ?_
          cases h; exact r_iret hX hR d_Le_entryAt_42
        · refine r_iconst (v := (1 : Int32)) hX d_Le_entryAt_36 rfl ?_
          refine r_goto hX d_Le_entryAt_37 rfl ?_
          refine r_iadd hX d_Le_entryAt_41 ?_
          cases h; exact r_iret hX hR d_Le_entryAt_42
      · refine r_iconst (v := (-1 : Int32)) hX d_Le_entryAt_17 rfl ?_
        cases h; exact r_iret hX hR d_Le_entryAt_18
theorem T_Le_entryAt {l : Launch} {G : AG} (w : AW) (a0 : Nat) (x1 : Int32) {o : Int32} (h : F_Le_entryAt w a0 x1 = some o) : Mt l G y_Le_entryAt b_Le_entryAt 2 (some (.int)) 0 0 0 0 [vr a0, vi x1] w (some (vi o)) w := mt_of (by decide) (Nat.le_of_ble_eq_true rfl) (fun X hX hR hM hI => P_Le_entryAt_0 hX hM hR _ _ h)
/-! RedSky.entry(I)I -/
theorem d_A_entry_0 : decode b_A_entry 0 = .ok (.aload_n 0, 1) := by decide +kernel
theorem d_A_entry_1 : decode b_A_entry 1 = .ok (.getfield 66, 3) := by decide +kernel
theorem d_A_entry_4 : decode b_A_entry 4 = .ok (.iload_n 1, 1) := by decide +kernel
theorem d_A_entry_5 : decode b_A_entry 5 = .ok (.invokevirtual 291, 3) := by decide +kernel
theorem d_A_entry_8 : decode b_A_entry 8 = .ok (.ireturn, 1) := by decide +kernel
def F_A_entry (w : AW) (a0 : Nat) (x1 : Int32) : Option (Int32) :=
  gd (wk w a0 == 1) <|
  gd (wk w (wr w a0 9) == 10) <|
  (F_Le_entryAt w (wr w a0 9) x1).bind fun r3 =>
  some r3
theorem P_A_entry_0 {X : AX} {l : Launch} {G : AG} {w : AW} (hX : XOK X b_A_entry "RedSky" 2) (hM : XM X l G { frames := 1, cells := 0, slots := 0, locals := 21 }) {o : Int32} (hR : XR X (some .int) 0 0 (some (vi o)) w) (a0 : Nat) (x1 : Int32) (h : F_A_entry w a0 x1 = some o) : RJ X 2 0 0 0 [(0, vr a0), (1, vi x1)] [] w := by
  unfold F_A_entry at h
  refine r_aload_n (i := 0) hX d_A_entry_0 0 rfl rfl ?_
  obtain ⟨hk1, h⟩ := gd_e h
  refine r_getR (i := 0) (f := 9) hX ci_0 (by decide) rfl fl_A_66 hk1 d_A_entry_1 ?_
  refine r_iload_n (i := 1) hX d_A_entry_4 1 rfl rfl ?_
  obtain ⟨hk2, h⟩ := gd_e h
  obtain ⟨r3, hr4, h⟩ := bd_e h
  refine r_callV1 (As := [_]) hX hM mw_A_291 (T_Le_entryAt _ _ _ hr4) (rc_of ci_9 hk2) rfl rfl ⟨Nat.le_refl _, Nat.le_refl _⟩ rfl rfl d_A_entry_5 ?_
  cases h; exact r_iret hX hR d_A_entry_8
theorem T_A_entry {l : Launch} {G : AG} (w : AW) (a0 : Nat) (x1 : Int32) {o : Int32} (h : F_A_entry w a0 x1 = some o) : Mt l G y_A_entry b_A_entry 2 (some (.int)) 1 21 0 0 [vr a0, vi x1] w (some (vi o)) w := mt_of (by decide) (Nat.le_of_ble_eq_true rfl) (fun X hX hR hM hI => P_A_entry_0 hX hM hR _ _ h)
/-! RedSkyModel.entry(I)I -/
theorem d_M_entry_0 : decode b_M_entry 0 = .ok (.aload_n 0, 1) := by decide +kernel
theorem d_M_entry_1 : decode b_M_entry 1 = .ok (.getfield 364, 3) := by decide +kernel
theorem d_M_entry_4 : decode b_M_entry 4 = .ok (.ifCond .eq (28), 3) := by decide +kernel
theorem d_M_entry_7 : decode b_M_entry 7 = .ok (.iload_n 1, 1) := by decide +kernel
theorem d_M_entry_8 : decode b_M_entry 8 = .ok (.i2l, 1) := by decide +kernel
theorem d_M_entry_9 : decode b_M_entry 9 = .ok (.lconst 0, 1) := by decide +kernel
theorem d_M_entry_10 : decode b_M_entry 10 = .ok (.aload_n 0, 1) := by decide +kernel
theorem d_M_entry_11 : decode b_M_entry 11 = .ok (.getfield 367, 3) := by decide +kernel
theorem d_M_entry_14 : decode b_M_entry 14 = .ok (.iconst 1, 1) := by decide +kernel
theorem d_M_entry_15 : decode b_M_entry 15 = .ok (.isub, 1) := by decide +kernel
theorem d_M_entry_16 : decode b_M_entry 16 = .ok (.i2l, 1) := by decide +kernel
theorem d_M_entry_17 : decode b_M_entry 17 = .ok (.invokestatic 122, 3) := by decide +kernel
theorem d_M_entry_20 : decode b_M_entry 20 = .ok (.ifCond .eq (12), 3) := by decide +kernel
theorem d_M_entry_23 : decode b_M_entry 23 = .ok (.aload_n 0, 1) := by decide +kernel
theorem d_M_entry_24 : decode b_M_entry 24 = .ok (.getfield 83, 3) := by decide +kernel
theorem d_M_entry_27 : decode b_M_entry 27 = .ok (.iload_n 1, 1) := by decide +kernel
theorem d_M_entry_28 : decode b_M_entry 28 = .ok (.iaload, 1) := by decide +kernel
theorem d_M_entry_29 : decode b_M_entry 29 = .ok (.goto (4), 3) := by decide +kernel
theorem d_M_entry_32 : decode b_M_entry 32 = .ok (.iconst (-1), 1) := by decide +kernel
theorem d_M_entry_33 : decode b_M_entry 33 = .ok (.ireturn, 1) := by decide +kernel
def F_M_entry (w : AW) (a0 : Nat) (x1 : Int32) : Option (Int32) :=
  gd (wk w a0 == 13) <|
  if (wi w a0 41) = 0 then
    some (-1 : Int32)
  else
    if (F_M_in (Int32.toInt64 x1) (0 : Int64) (Int32.toInt64 ((wi w a0 45) - (1 : Int32)))) = 0 then
      some (-1 : Int32)
    else
      gd (wk w (wr w a0 44) == 100) <|
      gd (inb x1 (wn w (wr w a0 44))) <|
      some (wi w (wr w a0 44) (Int32.toNatClampNeg x1))
theorem P_M_entry_0 {X : AX} {l : Launch} {G : AG} {w : AW} (hX : XOK X b_M_entry "RedSkyModel" 2) (hM : XM X l G { frames := 1, cells := 0, slots := 0, locals := 25 }) {o : Int32} (hR : XR X (some .int) 0 0 (some (vi o)) w) (a0 : Nat) (x1 : Int32) (h : F_M_entry w a0 x1 = some o) : RJ X 2 0 0 0 [(0, vr a0), (1, vi x1)] [] w := by
  unfold F_M_entry at h
  refine r_aload_n (i := 0) hX d_M_entry_0 0 rfl rfl ?_
  obtain ⟨hk1, h⟩ := gd_e h
  refine r_getI (i := 12) (f := 41) hX ci_12 (by decide) rfl fl_M_364 hk1 d_M_entry_1 ?_
  refine r_if_eq hX d_M_entry_4 rfl h (fun h => ?_) (fun h => ?_)
  · refine r_iconst (v := (-1 : Int32)) hX d_M_entry_32 rfl ?_
    cases h; exact r_iret hX hR d_M_entry_33
  · refine r_iload_n (i := 1) hX d_M_entry_7 1 rfl rfl ?_
    refine r_i2l hX d_M_entry_8 ?_
    refine r_lconst (v := (0 : Int64)) hX d_M_entry_9 rfl ?_
    refine r_aload_n (i := 0) hX d_M_entry_10 0 rfl rfl ?_
    refine r_getI (i := 12) (f := 45) hX ci_12 (by decide) rfl fl_M_367 hk1 d_M_entry_11 ?_
    refine r_iconst (v := (1 : Int32)) hX d_M_entry_14 rfl ?_
    refine r_isub hX d_M_entry_15 ?_
    refine r_i2l hX d_M_entry_16 ?_
    refine r_callS1 (As := [_, _, _]) hX hM mw_M_122 (T_M_in _ _ _ _) rfl rfl ⟨Nat.le_refl _, Nat.le_refl _⟩ rfl rfl d_M_entry_17 ?_
    refine r_if_eq hX d_M_entry_20 rfl h (fun h => ?_) (fun h => ?_)
    · refine r_iconst (v := (-1 : Int32)) hX d_M_entry_32 rfl ?_
      cases h; exact r_iret hX hR d_M_entry_33
    · refine r_aload_n (i := 0) hX d_M_entry_23 0 rfl rfl ?_
      refine r_getR (i := 12) (f := 44) hX ci_12 (by decide) rfl fl_M_83 hk1 d_M_entry_24 ?_
      refine r_iload_n (i := 1) hX d_M_entry_27 1 rfl rfl ?_
      obtain ⟨hk2, h⟩ := gd_e h
      obtain ⟨hg3, h⟩ := gd_e h
      refine r_iald hX hk2 hg3 d_M_entry_28 ?_
      refine r_goto hX d_M_entry_29 rfl ?_
      cases h; exact r_iret hX hR d_M_entry_33
theorem T_M_entry {l : Launch} {G : AG} (w : AW) (a0 : Nat) (x1 : Int32) {o : Int32} (h : F_M_entry w a0 x1 = some o) : Mt l G y_M_entry b_M_entry 2 (some (.int)) 1 25 0 0 [vr a0, vi x1] w (some (vi o)) w := mt_of (by decide) (Nat.le_of_ble_eq_true rfl) (fun X hX hR hM hI => P_M_entry_0 hX hM hR _ _ h)
/-! RedSky$Learner.answer(I)I -/
theorem d_Le_answer_0 : decode b_Le_answer 0 = .ok (.iload_n 1, 1) := by decide +kernel
theorem d_Le_answer_1 : decode b_Le_answer 1 = .ok (.iconst 0, 1) := by decide +kernel
theorem d_Le_answer_2 : decode b_Le_answer 2 = .ok (.iconst 5, 1) := by decide +kernel
theorem d_Le_answer_3 : decode b_Le_answer 3 = .ok (.invokestatic 78, 3) := by decide +kernel
theorem d_Le_answer_6 : decode b_Le_answer 6 = .ok (.ifCond .ne (6), 3) := by decide +kernel
theorem d_Le_answer_9 : decode b_Le_answer 9 = .ok (.bipush (-102), 2) := by decide +kernel
theorem d_Le_answer_11 : decode b_Le_answer 11 = .ok (.ireturn, 1) := by decide +kernel
theorem d_Le_answer_12 : decode b_Le_answer 12 = .ok (.aload_n 0, 1) := by decide +kernel
theorem d_Le_answer_13 : decode b_Le_answer 13 = .ok (.getfield 9, 3) := by decide +kernel
theorem d_Le_answer_16 : decode b_Le_answer 16 = .ok (.ifCond .ne (5), 3) := by decide +kernel
theorem d_Le_answer_19 : decode b_Le_answer 19 = .ok (.iconst (-1), 1) := by decide +kernel
theorem d_Le_answer_20 : decode b_Le_answer 20 = .ok (.ireturn, 1) := by decide +kernel
theorem d_Le_answer_21 : decode b_Le_answer 21 = .ok (.iload_n 1, 1) := by decide +kernel
theorem d_Le_answer_22 : decode b_Le_answer 22 = .ok (.tableswitch (67) 0 4 #[34, 47, 52, 57, 62], 34) := by decide +kernel
theorem d_Le_answer_56 : decode b_Le_answer 56 = .ok (.aload_n 0, 1) := by decide +kernel
theorem d_Le_answer_57 : decode b_Le_answer 57 = .ok (.getfield 55, 3) := by decide +kernel
theorem d_Le_answer_60 : decode b_Le_answer 60 = .ok (.ifCond .eq (7), 3) := by decide +kernel
theorem d_Le_answer_63 : decode b_Le_answer 63 = .ok (.iconst 1, 1) := by decide +kernel
theorem d_Le_answer_64 : decode b_Le_answer 64 = .ok (.goto (4), 3) := by decide +kernel
theorem d_Le_answer_67 : decode b_Le_answer 67 = .ok (.iconst 0, 1) := by decide +kernel
theorem d_Le_answer_68 : decode b_Le_answer 68 = .ok (.ireturn, 1) := by decide +kernel
theorem d_Le_answer_69 : decode b_Le_answer 69 = .ok (.aload_n 0, 1) := by decide +kernel
theorem d_Le_answer_70 : decode b_Le_answer 70 = .ok (.getfield 52, 3) := by decide +kernel
theorem d_Le_answer_73 : decode b_Le_answer 73 = .ok (.ireturn, 1) := by decide +kernel
theorem d_Le_answer_74 : decode b_Le_answer 74 = .ok (.aload_n 0, 1) := by decide +kernel
theorem d_Le_answer_75 : decode b_Le_answer 75 = .ok (.getfield 59, 3) := by decide +kernel
theorem d_Le_answer_78 : decode b_Le_answer 78 = .ok (.ireturn, 1) := by decide +kernel
theorem d_Le_answer_79 : decode b_Le_answer 79 = .ok (.aload_n 0, 1) := by decide +kernel
theorem d_Le_answer_80 : decode b_Le_answer 80 = .ok (.getfield 15, 3) := by decide +kernel
theorem d_Le_answer_83 : decode b_Le_answer 83 = .ok (.ireturn, 1) := by decide +kernel
theorem d_Le_answer_84 : decode b_Le_answer 84 = .ok (.aload_n 0, 1) := by decide +kernel
theorem d_Le_answer_85 : decode b_Le_answer 85 = .ok (.getfield 62, 3) := by decide +kernel
theorem d_Le_answer_88 : decode b_Le_answer 88 = .ok (.ireturn, 1) := by decide +kernel
theorem d_Le_answer_89 : decode b_Le_answer 89 = .ok (.aload_n 0, 1) := by decide +kernel
theorem d_Le_answer_90 : decode b_Le_answer 90 = .ok (.getfield 65, 3) := by decide +kernel
theorem d_Le_answer_93 : decode b_Le_answer 93 = .ok (.ireturn, 1) := by decide +kernel
def F_Le_answer (w : AW) (a0 : Nat) (x1 : Int32) : Option (Int32) :=
  if (F_A_within x1 (0 : Int32) (5 : Int32)) = 0 then
    some (-102 : Int32)
  else
    gd (wk w a0 == 10) <|
    if (wi w a0 0) = 0 then
      some (-1 : Int32)
    else
      if Int32.toInt x1 < 0 ∨ 4 < Int32.toInt x1 then
        some (wi w a0 15)
      else if x1 = (0 : Int32) then
        if (wi w a0 12) = 0 then
          some (0 : Int32)
        else
          some (1 : Int32)
      else if x1 = (1 : Int32) then
        some (wi w a0 11)
      else if x1 = (2 : Int32) then
        some (wi w a0 13)
      else if x1 = (3 : Int32) then
        some (wi w a0 1)
      else if x1 = (4 : Int32) then
        some (wi w a0 14)
      else none
theorem P_Le_answer_0 {X : AX} {l : Launch} {G : AG} {w : AW} (hX : XOK X b_Le_answer "RedSky$Learner" 2) (hM : XM X l G { frames := 1, cells := 0, slots := 0, locals := 22 }) {o : Int32} (hR : XR X (some .int) 0 0 (some (vi o)) w) (a0 : Nat) (x1 : Int32) (h : F_Le_answer w a0 x1 = some o) : RJ X 2 0 0 0 [(0, vr a0), (1, vi x1)] [] w := by
  unfold F_Le_answer at h
  refine r_iload_n (i := 1) hX d_Le_answer_0 1 rfl rfl ?_
  refine r_iconst (v := (0 : Int32)) hX d_Le_answer_1 rfl ?_
  refine r_iconst (v := (5 : Int32)) hX d_Le_answer_2 rfl ?_
  refine r_callSN1 (As := [_, _, _]) hX hM mw_Le_78 (T_A_within _ _ _ _) rfl rfl ⟨Nat.le_refl _, Nat.le_refl _⟩ rfl rfl d_Le_answer_3 ?_
  refine r_if_ne hX d_Le_answer_6 rfl h (fun h => ?_) (fun h => ?_)
  · refine r_aload_n (i := 0) hX d_Le_answer_12 0 rfl rfl ?_
    obtain ⟨hk1, h⟩ := gd_e h
    refine r_getI (i := 9) (f := 0) hX ci_9 (by decide) rfl fl_Le_9 hk1 d_Le_answer_13 ?_
    refine r_if_ne hX d_Le_answer_16 rfl h (fun h => ?_) (fun h => ?_)
    · refine r_iload_n (i := 1) hX d_Le_answer_21 1 rfl rfl ?_
      rcases it_e h with ⟨hc, h⟩ | ⟨-, h⟩
      · refine r_tsOut hX hc d_Le_answer_22 rfl ?_
        refine r_aload_n (i := 0) hX d_Le_answer_89 0 rfl rfl ?_
        refine r_getI (i := 9) (f := 15) hX ci_9 (by decide) rfl fl_Le_65 hk1 d_Le_answer_90 ?_
        cases h; exact r_iret hX hR d_Le_answer_93
      rcases it_e h with ⟨hc, h⟩ | ⟨-, h⟩
      · refine r_tsIn (v := (0 : Int32)) hX hc d_Le_answer_22 (by decide) (by decide) rfl rfl ?_
        refine r_aload_n (i := 0) hX d_Le_answer_56 0 rfl rfl ?_
        refine r_getI (i := 9) (f := 12) hX ci_9 (by decide) rfl fl_Le_55 hk1 d_Le_answer_57 ?_
        refine r_if_eq hX d_Le_answer_60 rfl h (fun h => ?_) (fun h => ?_)
        · refine r_iconst (v := (0 : Int32)) hX d_Le_answer_67 rfl ?_
          cases h; exact r_iret hX hR d_Le_answer_68
        · refine r_iconst (v := (1 : Int32)) hX d_Le_answer_63 rfl ?_
          refine r_goto hX d_Le_answer_64 rfl ?_
          cases h; exact r_iret hX hR d_Le_answer_68
      rcases it_e h with ⟨hc, h⟩ | ⟨-, h⟩
      · refine r_tsIn (v := (1 : Int32)) hX hc d_Le_answer_22 (by decide) (by decide) rfl rfl ?_
        refine r_aload_n (i := 0) hX d_Le_answer_69 0 rfl rfl ?_
        refine r_getI (i := 9) (f := 11) hX ci_9 (by decide) rfl fl_Le_52 hk1 d_Le_answer_70 ?_
        cases h; exact r_iret hX hR d_Le_answer_73
      rcases it_e h with ⟨hc, h⟩ | ⟨-, h⟩
      · refine r_tsIn (v := (2 : Int32)) hX hc d_Le_answer_22 (by decide) (by decide) rfl rfl ?_
        refine r_aload_n (i := 0) hX d_Le_answer_74 0 rfl rfl ?_
        refine r_getI (i := 9) (f := 13) hX ci_9 (by decide) rfl fl_Le_59 hk1 d_Le_answer_75 ?_
        cases h; exact r_iret hX hR d_Le_answer_78
      rcases it_e h with ⟨hc, h⟩ | ⟨-, h⟩
      · refine r_tsIn (v := (3 : Int32)) hX hc d_Le_answer_22 (by decide) (by decide) rfl rfl ?_
        refine r_aload_n (i := 0) hX d_Le_answer_79 0 rfl rfl ?_
        refine r_getI (i := 9) (f := 1) hX ci_9 (by decide) rfl fl_Le_15 hk1 d_Le_answer_80 ?_
        cases h; exact r_iret hX hR d_Le_answer_83
      rcases it_e h with ⟨hc, h⟩ | ⟨-, h⟩
      · refine r_tsIn (v := (4 : Int32)) hX hc d_Le_answer_22 (by decide) (by decide) rfl rfl ?_
        refine r_aload_n (i := 0) hX d_Le_answer_84 0 rfl rfl ?_
        refine r_getI (i := 9) (f := 14) hX ci_9 (by decide) rfl fl_Le_62 hk1 d_Le_answer_85 ?_
        cases h; exact r_iret hX hR d_Le_answer_88
      cases h
    · refine r_iconst (v := (-1 : Int32)) hX d_Le_answer_19 rfl ?_
      cases h; exact r_iret hX hR d_Le_answer_20
  · refine r_bipush (v := (-102 : Int32)) hX d_Le_answer_9 rfl ?_
    cases h; exact r_iret hX hR d_Le_answer_11
theorem T_Le_answer {l : Launch} {G : AG} (w : AW) (a0 : Nat) (x1 : Int32) {o : Int32} (h : F_Le_answer w a0 x1 = some o) : Mt l G y_Le_answer b_Le_answer 2 (some (.int)) 1 22 0 0 [vr a0, vi x1] w (some (vi o)) w := mt_of (by decide) (Nat.le_of_ble_eq_true rfl) (fun X hX hR hM hI => P_Le_answer_0 hX hM hR _ _ h)
/-! RedSky.list(I)I -/
theorem d_A_list_0 : decode b_A_list 0 = .ok (.aload_n 0, 1) := by decide +kernel
theorem d_A_list_1 : decode b_A_list 1 = .ok (.getfield 66, 3) := by decide +kernel
theorem d_A_list_4 : decode b_A_list 4 = .ok (.iload_n 1, 1) := by decide +kernel
theorem d_A_list_5 : decode b_A_list 5 = .ok (.invokevirtual 294, 3) := by decide +kernel
theorem d_A_list_8 : decode b_A_list 8 = .ok (.ireturn, 1) := by decide +kernel
def F_A_list (w : AW) (a0 : Nat) (x1 : Int32) : Option (Int32) :=
  gd (wk w a0 == 1) <|
  gd (wk w (wr w a0 9) == 10) <|
  (F_Le_answer w (wr w a0 9) x1).bind fun r3 =>
  some r3
theorem P_A_list_0 {X : AX} {l : Launch} {G : AG} {w : AW} (hX : XOK X b_A_list "RedSky" 2) (hM : XM X l G { frames := 2, cells := 0, slots := 0, locals := 43 }) {o : Int32} (hR : XR X (some .int) 0 0 (some (vi o)) w) (a0 : Nat) (x1 : Int32) (h : F_A_list w a0 x1 = some o) : RJ X 2 0 0 0 [(0, vr a0), (1, vi x1)] [] w := by
  unfold F_A_list at h
  refine r_aload_n (i := 0) hX d_A_list_0 0 rfl rfl ?_
  obtain ⟨hk1, h⟩ := gd_e h
  refine r_getR (i := 0) (f := 9) hX ci_0 (by decide) rfl fl_A_66 hk1 d_A_list_1 ?_
  refine r_iload_n (i := 1) hX d_A_list_4 1 rfl rfl ?_
  obtain ⟨hk2, h⟩ := gd_e h
  obtain ⟨r3, hr4, h⟩ := bd_e h
  refine r_callV1 (As := [_]) hX hM mw_A_294 (T_Le_answer _ _ _ hr4) (rc_of ci_9 hk2) rfl rfl ⟨Nat.le_refl _, Nat.le_refl _⟩ rfl rfl d_A_list_5 ?_
  cases h; exact r_iret hX hR d_A_list_8
theorem T_A_list {l : Launch} {G : AG} (w : AW) (a0 : Nat) (x1 : Int32) {o : Int32} (h : F_A_list w a0 x1 = some o) : Mt l G y_A_list b_A_list 2 (some (.int)) 2 43 0 0 [vr a0, vi x1] w (some (vi o)) w := mt_of (by decide) (Nat.le_of_ble_eq_true rfl) (fun X hX hR hM hI => P_A_list_0 hX hM hR _ _ h)
/-! RedSkyModel.list(I)I -/
theorem d_M_list_0 : decode b_M_list 0 = .ok (.iload_n 1, 1) := by decide +kernel
theorem d_M_list_1 : decode b_M_list 1 = .ok (.i2l, 1) := by decide +kernel
theorem d_M_list_2 : decode b_M_list 2 = .ok (.lconst 0, 1) := by decide +kernel
theorem d_M_list_3 : decode b_M_list 3 = .ok (.ldc2_w 370, 3) := by decide +kernel
theorem d_M_list_6 : decode b_M_list 6 = .ok (.invokestatic 122, 3) := by decide +kernel
theorem d_M_list_9 : decode b_M_list 9 = .ok (.ifCond .ne (6), 3) := by decide +kernel
theorem d_M_list_12 : decode b_M_list 12 = .ok (.bipush (-102), 2) := by decide +kernel
theorem d_M_list_14 : decode b_M_list 14 = .ok (.ireturn, 1) := by decide +kernel
theorem d_M_list_15 : decode b_M_list 15 = .ok (.aload_n 0, 1) := by decide +kernel
theorem d_M_list_16 : decode b_M_list 16 = .ok (.getfield 364, 3) := by decide +kernel
theorem d_M_list_19 : decode b_M_list 19 = .ok (.ifCond .eq (12), 3) := by decide +kernel
theorem d_M_list_22 : decode b_M_list 22 = .ok (.aload_n 0, 1) := by decide +kernel
theorem d_M_list_23 : decode b_M_list 23 = .ok (.getfield 86, 3) := by decide +kernel
theorem d_M_list_26 : decode b_M_list 26 = .ok (.iload_n 1, 1) := by decide +kernel
theorem d_M_list_27 : decode b_M_list 27 = .ok (.iaload, 1) := by decide +kernel
theorem d_M_list_28 : decode b_M_list 28 = .ok (.goto (4), 3) := by decide +kernel
theorem d_M_list_31 : decode b_M_list 31 = .ok (.iconst (-1), 1) := by decide +kernel
theorem d_M_list_32 : decode b_M_list 32 = .ok (.ireturn, 1) := by decide +kernel
def F_M_list (w : AW) (a0 : Nat) (x1 : Int32) : Option (Int32) :=
  if (F_M_in (Int32.toInt64 x1) (0 : Int64) (5 : Int64)) = 0 then
    some (-102 : Int32)
  else
    gd (wk w a0 == 13) <|
    if (wi w a0 41) = 0 then
      some (-1 : Int32)
    else
      gd (wk w (wr w a0 46) == 100) <|
      gd (inb x1 (wn w (wr w a0 46))) <|
      some (wi w (wr w a0 46) (Int32.toNatClampNeg x1))
theorem P_M_list_0 {X : AX} {l : Launch} {G : AG} {w : AW} (hX : XOK X b_M_list "RedSkyModel" 2) (hM : XM X l G { frames := 1, cells := 0, slots := 0, locals := 25 }) {o : Int32} (hR : XR X (some .int) 0 0 (some (vi o)) w) (a0 : Nat) (x1 : Int32) (h : F_M_list w a0 x1 = some o) : RJ X 2 0 0 0 [(0, vr a0), (1, vi x1)] [] w := by
  unfold F_M_list at h
  refine r_iload_n (i := 1) hX d_M_list_0 1 rfl rfl ?_
  refine r_i2l hX d_M_list_1 ?_
  refine r_lconst (v := (0 : Int64)) hX d_M_list_2 rfl ?_
  refine r_ldc2 hX d_M_list_3 cw_M_370 ?_
  refine r_callS1 (As := [_, _, _]) hX hM mw_M_122 (T_M_in _ _ _ _) rfl rfl ⟨Nat.le_refl _, Nat.le_refl _⟩ rfl rfl d_M_list_6 ?_
  refine r_if_ne hX d_M_list_9 rfl h (fun h => ?_) (fun h => ?_)
  · refine r_aload_n (i := 0) hX d_M_list_15 0 rfl rfl ?_
    obtain ⟨hk1, h⟩ := gd_e h
    refine r_getI (i := 12) (f := 41) hX ci_12 (by decide) rfl fl_M_364 hk1 d_M_list_16 ?_
    refine r_if_eq hX d_M_list_19 rfl h (fun h => ?_) (fun h => ?_)
    · refine r_iconst (v := (-1 : Int32)) hX d_M_list_31 rfl ?_
      cases h; exact r_iret hX hR d_M_list_32
    · refine r_aload_n (i := 0) hX d_M_list_22 0 rfl rfl ?_
      refine r_getR (i := 12) (f := 46) hX ci_12 (by decide) rfl fl_M_86 hk1 d_M_list_23 ?_
      refine r_iload_n (i := 1) hX d_M_list_26 1 rfl rfl ?_
      obtain ⟨hk2, h⟩ := gd_e h
      obtain ⟨hg3, h⟩ := gd_e h
      refine r_iald hX hk2 hg3 d_M_list_27 ?_
      refine r_goto hX d_M_list_28 rfl ?_
      cases h; exact r_iret hX hR d_M_list_32
  · refine r_bipush (v := (-102 : Int32)) hX d_M_list_12 rfl ?_
    cases h; exact r_iret hX hR d_M_list_14
theorem T_M_list {l : Launch} {G : AG} (w : AW) (a0 : Nat) (x1 : Int32) {o : Int32} (h : F_M_list w a0 x1 = some o) : Mt l G y_M_list b_M_list 2 (some (.int)) 1 25 0 0 [vr a0, vi x1] w (some (vi o)) w := mt_of (by decide) (Nat.le_of_ble_eq_true rfl) (fun X hX hR hM hI => P_M_list_0 hX hM hR _ _ h)
/-! RedSky.almanacOf(I)LRedSky$Almanac; -/
theorem d_A_almanacOf_0 : decode b_A_almanacOf 0 = .ok (.iload_n 1, 1) := by decide +kernel
theorem d_A_almanacOf_1 : decode b_A_almanacOf 1 = .ok (.iconst 0, 1) := by decide +kernel
theorem d_A_almanacOf_2 : decode b_A_almanacOf 2 = .ok (.iconst 5, 1) := by decide +kernel
theorem d_A_almanacOf_3 : decode b_A_almanacOf 3 = .ok (.invokestatic 86, 3) := by decide +kernel
theorem d_A_almanacOf_6 : decode b_A_almanacOf 6 = .ok (.ifCond .eq (12), 3) := by decide +kernel
theorem d_A_almanacOf_9 : decode b_A_almanacOf 9 = .ok (.aload_n 0, 1) := by decide +kernel
theorem d_A_almanacOf_10 : decode b_A_almanacOf 10 = .ok (.getfield 72, 3) := by decide +kernel
theorem d_A_almanacOf_13 : decode b_A_almanacOf 13 = .ok (.iload_n 1, 1) := by decide +kernel
theorem d_A_almanacOf_14 : decode b_A_almanacOf 14 = .ok (.aaload, 1) := by decide +kernel
theorem d_A_almanacOf_15 : decode b_A_almanacOf 15 = .ok (.goto (4), 3) := by decide +kernel
theorem d_A_almanacOf_18 : decode b_A_almanacOf 18 = .ok (.aconst_null, 1) := by decide +kernel
theorem d_A_almanacOf_19 : decode b_A_almanacOf 19 = .ok (.areturn, 1) := by decide +kernel
def F_A_almanacOf (w : AW) (a0 : Nat) (x1 : Int32) : Option (Nat) :=
  if (F_A_within x1 (0 : Int32) (5 : Int32)) = 0 then
    some 0
  else
    gd (wk w a0 == 1) <|
    gd (wk w (wr w a0 10) == 108) <|
    gd (inb x1 (wn w (wr w a0 10))) <|
    some (wr w (wr w a0 10) (Int32.toNatClampNeg x1))
theorem P_A_almanacOf_0 {X : AX} {l : Launch} {G : AG} {w : AW} (hX : XOK X b_A_almanacOf "RedSky" 2) (hM : XM X l G { frames := 1, cells := 0, slots := 0, locals := 22 }) {o : Nat} (hR : XR X (some (.object "RedSky$Almanac")) 0 0 (some (vr o)) w) (a0 : Nat) (x1 : Int32) (h : F_A_almanacOf w a0 x1 = some o) : RJ X 2 0 0 0 [(0, vr a0), (1, vi x1)] [] w := by
  unfold F_A_almanacOf at h
  refine r_iload_n (i := 1) hX d_A_almanacOf_0 1 rfl rfl ?_
  refine r_iconst (v := (0 : Int32)) hX d_A_almanacOf_1 rfl ?_
  refine r_iconst (v := (5 : Int32)) hX d_A_almanacOf_2 rfl ?_
  refine r_callS1 (As := [_, _, _]) hX hM mw_A_86 (T_A_within _ _ _ _) rfl rfl ⟨Nat.le_refl _, Nat.le_refl _⟩ rfl rfl d_A_almanacOf_3 ?_
  refine r_if_eq hX d_A_almanacOf_6 rfl h (fun h => ?_) (fun h => ?_)
  · refine r_null hX d_A_almanacOf_18 ?_
    cases h; exact r_aret hX hR d_A_almanacOf_19
  · refine r_aload_n (i := 0) hX d_A_almanacOf_9 0 rfl rfl ?_
    obtain ⟨hk1, h⟩ := gd_e h
    refine r_getR (i := 0) (f := 10) hX ci_0 (by decide) rfl fl_A_72 hk1 d_A_almanacOf_10 ?_
    refine r_iload_n (i := 1) hX d_A_almanacOf_13 1 rfl rfl ?_
    obtain ⟨hk2, h⟩ := gd_e h
    obtain ⟨hg3, h⟩ := gd_e h
    refine r_aald (t := 0) (kd := 108) hX (by decide) (fun G => rfl) hk2 hg3 d_A_almanacOf_14 ?_
    refine r_goto hX d_A_almanacOf_15 rfl ?_
    cases h; exact r_aret hX hR d_A_almanacOf_19
theorem T_A_almanacOf {l : Launch} {G : AG} (w : AW) (a0 : Nat) (x1 : Int32) {o : Nat} (h : F_A_almanacOf w a0 x1 = some o) : Mt l G y_A_almanacOf b_A_almanacOf 2 (some (.object "RedSky$Almanac")) 1 22 0 0 [vr a0, vi x1] w (some (vr o)) w := mt_of (by decide) (Nat.le_of_ble_eq_true rfl) (fun X hX hR hM hI => P_A_almanacOf_0 hX hM hR _ _ h)
/-! RedSky.age(II)I -/
theorem d_A_age_0 : decode b_A_age 0 = .ok (.aload_n 0, 1) := by decide +kernel
theorem d_A_age_1 : decode b_A_age 1 = .ok (.iload_n 1, 1) := by decide +kernel
theorem d_A_age_2 : decode b_A_age 2 = .ok (.invokevirtual 295, 3) := by decide +kernel
theorem d_A_age_5 : decode b_A_age 5 = .ok (.astore_n 3, 1) := by decide +kernel
theorem d_A_age_6 : decode b_A_age 6 = .ok (.aload_n 3, 1) := by decide +kernel
theorem d_A_age_7 : decode b_A_age 7 = .ok (.ifnonnull (6), 3) := by decide +kernel
theorem d_A_age_10 : decode b_A_age 10 = .ok (.bipush (-101), 2) := by decide +kernel
theorem d_A_age_12 : decode b_A_age 12 = .ok (.ireturn, 1) := by decide +kernel
theorem d_A_age_13 : decode b_A_age 13 = .ok (.iload_n 2, 1) := by decide +kernel
theorem d_A_age_14 : decode b_A_age 14 = .ok (.iconst 0, 1) := by decide +kernel
theorem d_A_age_15 : decode b_A_age 15 = .ok (.sipush (9999), 3) := by decide +kernel
theorem d_A_age_18 : decode b_A_age 18 = .ok (.invokestatic 86, 3) := by decide +kernel
theorem d_A_age_21 : decode b_A_age 21 = .ok (.ifCond .ne (6), 3) := by decide +kernel
theorem d_A_age_24 : decode b_A_age 24 = .ok (.bipush (-102), 2) := by decide +kernel
theorem d_A_age_26 : decode b_A_age 26 = .ok (.ireturn, 1) := by decide +kernel
theorem d_A_age_27 : decode b_A_age 27 = .ok (.aload_n 3, 1) := by decide +kernel
theorem d_A_age_28 : decode b_A_age 28 = .ok (.getfield 299, 3) := by decide +kernel
theorem d_A_age_31 : decode b_A_age 31 = .ok (.istore 4, 2) := by decide +kernel
theorem d_A_age_33 : decode b_A_age 33 = .ok (.aload_n 3, 1) := by decide +kernel
theorem d_A_age_34 : decode b_A_age 34 = .ok (.iload_n 2, 1) := by decide +kernel
theorem d_A_age_35 : decode b_A_age 35 = .ok (.putfield 299, 3) := by decide +kernel
theorem d_A_age_38 : decode b_A_age 38 = .ok (.iload 4, 2) := by decide +kernel
theorem d_A_age_40 : decode b_A_age 40 = .ok (.ireturn, 1) := by decide +kernel
def F_A_age (a0 : Nat) (x1 : Int32) (x2 : Int32) (w : AW) : Option (Int32 × AW) :=
  gd (wk w a0 == 1) <|
  (F_A_almanacOf w a0 x1).bind fun r2 =>
  if r2 = 0 then
    some ((-101 : Int32), w)
  else
    if (F_A_within x2 (0 : Int32) (9999 : Int32)) = 0 then
      some ((-102 : Int32), w)
    else
      gd (wk w r2 == 11) <|
      let v5 : Int32 := (wi w r2 0)
      let w6 : AW := upI w r2 0 x2
      some (v5, w6)
theorem P_A_age_0 {X : AX} {l : Launch} {G : AG} (hX : XOK X b_A_age "RedSky" 5) (hM : XM X l G { frames := 2, cells := 0, slots := 0, locals := 43 }) {o : Int32 × AW} (hR : XR X (some .int) 0 0 (some (vi o.1)) o.2) (a0 : Nat) (x1 : Int32) (x2 : Int32) (w : AW) (h : F_A_age a0 x1 x2 w = some o) : RJ X 5 0 0 0 [(0, vr a0), (1, vi x1), (2, vi x2)] [] w := by
  unfold F_A_age at h
  refine r_aload_n (i := 0) hX d_A_age_0 0 rfl rfl ?_
  refine r_iload_n (i := 1) hX d_A_age_1 1 rfl rfl ?_
  obtain ⟨hk1, h⟩ := gd_e h
  obtain ⟨r2, hr3, h⟩ := bd_e h
  refine r_callV1 (As := [_]) hX hM mw_A_295 (T_A_almanacOf _ _ _ hr3) (rc_of ci_0 hk1) rfl rfl ⟨Nat.le_refl _, Nat.le_refl _⟩ rfl rfl d_A_age_2 ?_
  refine r_astore_n (i := 3) hX d_A_age_5 rfl (by decide) ?_
  refine r_aload_n (i := 3) hX d_A_age_6 0 rfl rfl ?_
  refine r_ifnonnull hX d_A_age_7 rfl h (fun h => ?_) (fun h => ?_)
  · refine r_iload_n (i := 2) hX d_A_age_13 3 rfl rfl ?_
    refine r_iconst (v := (0 : Int32)) hX d_A_age_14 rfl ?_
    refine r_sipush (v := (9999 : Int32)) hX d_A_age_15 rfl ?_
    refine r_callS1 (As := [_, _, _]) hX hM mw_A_86 (T_A_within _ _ _ _) rfl rfl ⟨Nat.le_refl _, Nat.le_refl _⟩ rfl rfl d_A_age_18 ?_
    refine r_if_ne hX d_A_age_21 rfl h (fun h => ?_) (fun h => ?_)
    · refine r_aload_n (i := 3) hX d_A_age_27 0 rfl rfl ?_
      obtain ⟨hk4, h⟩ := gd_e h
      refine r_getI (i := 10) (f := 0) hX ci_10 (by decide) rfl fl_A_299 hk4 d_A_age_28 ?_
      refine r_istore (i := 4) hX d_A_age_31  (by decide) ?_
      refine r_aload_n (i := 3) hX d_A_age_33 1 rfl rfl ?_
      refine r_iload_n (i := 2) hX d_A_age_34 4 rfl rfl ?_
      refine r_putI (i := 10) (f := 0) hX ci_10 (by decide) rfl rfl (fun G => rfl) (fun G => rfl) fl_A_299 hk4 d_A_age_35 ?_
      refine r_iload (i := 4) hX d_A_age_38 0  rfl ?_
      cases h; exact r_iret hX hR d_A_age_40
    · refine r_bipush (v := (-102 : Int32)) hX d_A_age_24 rfl ?_
      cases h; exact r_iret hX hR d_A_age_26
  · refine r_bipush (v := (-101 : Int32)) hX d_A_age_10 rfl ?_
    cases h; exact r_iret hX hR d_A_age_12
theorem T_A_age {l : Launch} {G : AG} (a0 : Nat) (x1 : Int32) (x2 : Int32) (w : AW) {o : Int32 × AW} (h : F_A_age a0 x1 x2 w = some o) : Mt l G y_A_age b_A_age 5 (some (.int)) 2 43 0 0 [vr a0, vi x1, vi x2] w (some (vi o.1)) o.2 := mt_of (by decide) (Nat.le_of_ble_eq_true rfl) (fun X hX hR hM hI => P_A_age_0 hX hM hR _ _ _ _ h)
/-! RedSkyModel.isAlmanac(I)Z -/
theorem d_M_isAlmanac_0 : decode b_M_isAlmanac 0 = .ok (.iload_n 0, 1) := by decide +kernel
theorem d_M_isAlmanac_1 : decode b_M_isAlmanac 1 = .ok (.i2l, 1) := by decide +kernel
theorem d_M_isAlmanac_2 : decode b_M_isAlmanac 2 = .ok (.lconst 0, 1) := by decide +kernel
theorem d_M_isAlmanac_3 : decode b_M_isAlmanac 3 = .ok (.ldc2_w 370, 3) := by decide +kernel
theorem d_M_isAlmanac_6 : decode b_M_isAlmanac 6 = .ok (.invokestatic 122, 3) := by decide +kernel
theorem d_M_isAlmanac_9 : decode b_M_isAlmanac 9 = .ok (.ireturn, 1) := by decide +kernel
def Fo_M_isAlmanac (w : AW) (x0 : Int32) : Option (Int32) :=
  some (F_M_in (Int32.toInt64 x0) (0 : Int64) (5 : Int64))
theorem P_M_isAlmanac_0 {X : AX} {l : Launch} {G : AG} {w : AW} (hX : XOK X b_M_isAlmanac "RedSkyModel" 1) (hM : XM X l G { frames := 1, cells := 0, slots := 0, locals := 25 }) {o : Int32} (hR : XR X (some .boolean) 0 0 (some (vi o)) w) (x0 : Int32) (h : Fo_M_isAlmanac w x0 = some o) : RJ X 1 0 0 0 [(0, vi x0)] [] w := by
  unfold Fo_M_isAlmanac at h
  refine r_iload_n (i := 0) hX d_M_isAlmanac_0 0 rfl rfl ?_
  refine r_i2l hX d_M_isAlmanac_1 ?_
  refine r_lconst (v := (0 : Int64)) hX d_M_isAlmanac_2 rfl ?_
  refine r_ldc2 hX d_M_isAlmanac_3 cw_M_370 ?_
  refine r_callS1 (As := [_, _, _]) hX hM mw_M_122 (T_M_in _ _ _ _) rfl rfl ⟨Nat.le_refl _, Nat.le_refl _⟩ rfl rfl d_M_isAlmanac_6 ?_
  cases h; exact r_zret hX hR (zn_ok (z_M_in _ _ _)) d_M_isAlmanac_9
def F_M_isAlmanac (x0 : Int32) : Int32 :=
  (F_M_in (Int32.toInt64 x0) (0 : Int64) (5 : Int64))
theorem E_M_isAlmanac (w : AW) (x0 : Int32) : Fo_M_isAlmanac w x0 = some (F_M_isAlmanac x0) := by
  simp only [Fo_M_isAlmanac, F_M_isAlmanac, apply_ite (some : Int32 → Option Int32)]
theorem z_M_isAlmanac (x0 : Int32) : (F_M_isAlmanac x0 == 0 || F_M_isAlmanac x0 == 1) = true := by
  unfold F_M_isAlmanac; exact (z_M_in _ _ _)
theorem T_M_isAlmanac {l : Launch} {G : AG} (x0 : Int32) (w : AW)  : Mt l G y_M_isAlmanac b_M_isAlmanac 1 (some (.boolean)) 1 25 0 0 [vi x0] w (some (vi (F_M_isAlmanac x0))) w := mt_of (by decide) (Nat.le_of_ble_eq_true rfl) (fun X hX hR hM hI => P_M_isAlmanac_0 hX hM hR _ (E_M_isAlmanac _ _))
/-! RedSkyModel.age(II)I -/
theorem d_M_age_0 : decode b_M_age 0 = .ok (.iload_n 1, 1) := by decide +kernel
theorem d_M_age_1 : decode b_M_age 1 = .ok (.invokestatic 372, 3) := by decide +kernel
theorem d_M_age_4 : decode b_M_age 4 = .ok (.ifCond .ne (6), 3) := by decide +kernel
theorem d_M_age_7 : decode b_M_age 7 = .ok (.bipush (-101), 2) := by decide +kernel
theorem d_M_age_9 : decode b_M_age 9 = .ok (.ireturn, 1) := by decide +kernel
theorem d_M_age_10 : decode b_M_age 10 = .ok (.iload_n 2, 1) := by decide +kernel
theorem d_M_age_11 : decode b_M_age 11 = .ok (.i2l, 1) := by decide +kernel
theorem d_M_age_12 : decode b_M_age 12 = .ok (.lconst 0, 1) := by decide +kernel
theorem d_M_age_13 : decode b_M_age 13 = .ok (.ldc2_w 375, 3) := by decide +kernel
theorem d_M_age_16 : decode b_M_age 16 = .ok (.invokestatic 122, 3) := by decide +kernel
theorem d_M_age_19 : decode b_M_age 19 = .ok (.ifCond .ne (6), 3) := by decide +kernel
theorem d_M_age_22 : decode b_M_age 22 = .ok (.bipush (-102), 2) := by decide +kernel
theorem d_M_age_24 : decode b_M_age 24 = .ok (.ireturn, 1) := by decide +kernel
theorem d_M_age_25 : decode b_M_age 25 = .ok (.aload_n 0, 1) := by decide +kernel
theorem d_M_age_26 : decode b_M_age 26 = .ok (.getfield 25, 3) := by decide +kernel
theorem d_M_age_29 : decode b_M_age 29 = .ok (.iload_n 1, 1) := by decide +kernel
theorem d_M_age_30 : decode b_M_age 30 = .ok (.iaload, 1) := by decide +kernel
theorem d_M_age_31 : decode b_M_age 31 = .ok (.istore_n 3, 1) := by decide +kernel
theorem d_M_age_32 : decode b_M_age 32 = .ok (.aload_n 0, 1) := by decide +kernel
theorem d_M_age_33 : decode b_M_age 33 = .ok (.getfield 25, 3) := by decide +kernel
theorem d_M_age_36 : decode b_M_age 36 = .ok (.iload_n 1, 1) := by decide +kernel
theorem d_M_age_37 : decode b_M_age 37 = .ok (.iload_n 2, 1) := by decide +kernel
theorem d_M_age_38 : decode b_M_age 38 = .ok (.iastore, 1) := by decide +kernel
theorem d_M_age_39 : decode b_M_age 39 = .ok (.iload_n 3, 1) := by decide +kernel
theorem d_M_age_40 : decode b_M_age 40 = .ok (.ireturn, 1) := by decide +kernel
def F_M_age (a0 : Nat) (x1 : Int32) (x2 : Int32) (w : AW) : Option (Int32 × AW) :=
  if (F_M_isAlmanac x1) = 0 then
    some ((-101 : Int32), w)
  else
    if (F_M_in (Int32.toInt64 x2) (0 : Int64) (9999 : Int64)) = 0 then
      some ((-102 : Int32), w)
    else
      gd (wk w a0 == 13) <|
      gd (wk w (wr w a0 6) == 100) <|
      gd (inb x1 (wn w (wr w a0 6))) <|
      let v4 : Int32 := (wi w (wr w a0 6) (Int32.toNatClampNeg x1))
      gd (inb x1 (wn w (wr w a0 6))) <|
      let w6 : AW := upI w (wr w a0 6) (Int32.toNatClampNeg x1) x2
      some (v4, w6)
theorem P_M_age_0 {X : AX} {l : Launch} {G : AG} (hX : XOK X b_M_age "RedSkyModel" 4) (hM : XM X l G { frames := 2, cells := 0, slots := 0, locals := 45 }) {o : Int32 × AW} (hR : XR X (some .int) 0 0 (some (vi o.1)) o.2) (a0 : Nat) (x1 : Int32) (x2 : Int32) (w : AW) (h : F_M_age a0 x1 x2 w = some o) : RJ X 4 0 0 0 [(0, vr a0), (1, vi x1), (2, vi x2)] [] w := by
  unfold F_M_age at h
  refine r_iload_n (i := 1) hX d_M_age_0 1 rfl rfl ?_
  refine r_callS1 (As := [_]) hX hM mw_M_372 (T_M_isAlmanac _ _) rfl rfl ⟨Nat.le_refl _, Nat.le_refl _⟩ rfl rfl d_M_age_1 ?_
  refine r_if_ne hX d_M_age_4 rfl h (fun h => ?_) (fun h => ?_)
  · refine r_iload_n (i := 2) hX d_M_age_10 2 rfl rfl ?_
    refine r_i2l hX d_M_age_11 ?_
    refine r_lconst (v := (0 : Int64)) hX d_M_age_12 rfl ?_
    refine r_ldc2 hX d_M_age_13 cw_M_375 ?_
    refine r_callS1 (As := [_, _, _]) hX hM mw_M_122 (T_M_in _ _ _ _) rfl rfl ⟨Nat.le_refl _, Nat.le_refl _⟩ rfl rfl d_M_age_16 ?_
    refine r_if_ne hX d_M_age_19 rfl h (fun h => ?_) (fun h => ?_)
    · refine r_aload_n (i := 0) hX d_M_age_25 0 rfl rfl ?_
      obtain ⟨hk1, h⟩ := gd_e h
      refine r_getR (i := 12) (f := 6) hX ci_12 (by decide) rfl fl_M_25 hk1 d_M_age_26 ?_
      refine r_iload_n (i := 1) hX d_M_age_29 1 rfl rfl ?_
      obtain ⟨hk2, h⟩ := gd_e h
      obtain ⟨hg3, h⟩ := gd_e h
      refine r_iald hX hk2 hg3 d_M_age_30 ?_
      refine r_istore_n (i := 3) hX d_M_age_31 rfl (by decide) ?_
      refine r_aload_n (i := 0) hX d_M_age_32 1 rfl rfl ?_
      refine r_getR (i := 12) (f := 6) hX ci_12 (by decide) rfl fl_M_25 hk1 d_M_age_33 ?_
      refine r_iload_n (i := 1) hX d_M_age_36 2 rfl rfl ?_
      refine r_iload_n (i := 2) hX d_M_age_37 3 rfl rfl ?_
      obtain ⟨hg5, h⟩ := gd_e h
      refine r_iast hX hk2 hg5 d_M_age_38 ?_
      refine r_iload_n (i := 3) hX d_M_age_39 0 rfl rfl ?_
      cases h; exact r_iret hX hR d_M_age_40
    · refine r_bipush (v := (-102 : Int32)) hX d_M_age_22 rfl ?_
      cases h; exact r_iret hX hR d_M_age_24
  · refine r_bipush (v := (-101 : Int32)) hX d_M_age_7 rfl ?_
    cases h; exact r_iret hX hR d_M_age_9
theorem T_M_age {l : Launch} {G : AG} (a0 : Nat) (x1 : Int32) (x2 : Int32) (w : AW) {o : Int32 × AW} (h : F_M_age a0 x1 x2 w = some o) : Mt l G y_M_age b_M_age 4 (some (.int)) 2 45 0 0 [vr a0, vi x1, vi x2] w (some (vi o.1)) o.2 := mt_of (by decide) (Nat.le_of_ble_eq_true rfl) (fun X hX hR hM hI => P_M_age_0 hX hM hR _ _ _ _ h)
/-! RedSky$Almanac.put(II)V -/
theorem d_Al_put_0 : decode b_Al_put 0 = .ok (.aload_n 0, 1) := by decide +kernel
theorem d_Al_put_1 : decode b_Al_put 1 = .ok (.getfield 18, 3) := by decide +kernel
theorem d_Al_put_4 : decode b_Al_put 4 = .ok (.iload_n 1, 1) := by decide +kernel
theorem d_Al_put_5 : decode b_Al_put 5 = .ok (.invokevirtual 32, 3) := by decide +kernel
theorem d_Al_put_8 : decode b_Al_put 8 = .ok (.aload_n 0, 1) := by decide +kernel
theorem d_Al_put_9 : decode b_Al_put 9 = .ok (.getfield 22, 3) := by decide +kernel
theorem d_Al_put_12 : decode b_Al_put 12 = .ok (.iload_n 1, 1) := by decide +kernel
theorem d_Al_put_13 : decode b_Al_put 13 = .ok (.invokevirtual 32, 3) := by decide +kernel
theorem d_Al_put_16 : decode b_Al_put 16 = .ok (.iload_n 2, 1) := by decide +kernel
theorem d_Al_put_17 : decode b_Al_put 17 = .ok (.iconst (-1), 1) := by decide +kernel
theorem d_Al_put_18 : decode b_Al_put 18 = .ok (.if_icmp .eq (11), 3) := by decide +kernel
theorem d_Al_put_21 : decode b_Al_put 21 = .ok (.aload_n 0, 1) := by decide +kernel
theorem d_Al_put_22 : decode b_Al_put 22 = .ok (.getfield 18, 3) := by decide +kernel
theorem d_Al_put_25 : decode b_Al_put 25 = .ok (.iload_n 1, 1) := by decide +kernel
theorem d_Al_put_26 : decode b_Al_put 26 = .ok (.invokevirtual 36, 3) := by decide +kernel
theorem d_Al_put_29 : decode b_Al_put 29 = .ok (.iload_n 2, 1) := by decide +kernel
theorem d_Al_put_30 : decode b_Al_put 30 = .ok (.iconst 1, 1) := by decide +kernel
theorem d_Al_put_31 : decode b_Al_put 31 = .ok (.if_icmp .ne (11), 3) := by decide +kernel
theorem d_Al_put_34 : decode b_Al_put 34 = .ok (.aload_n 0, 1) := by decide +kernel
theorem d_Al_put_35 : decode b_Al_put 35 = .ok (.getfield 22, 3) := by decide +kernel
theorem d_Al_put_38 : decode b_Al_put 38 = .ok (.iload_n 1, 1) := by decide +kernel
theorem d_Al_put_39 : decode b_Al_put 39 = .ok (.invokevirtual 36, 3) := by decide +kernel
theorem d_Al_put_42 : decode b_Al_put 42 = .ok (.return_, 1) := by decide +kernel
def F_Al_put_29 (a0 : Nat) (x1 : Int32) (x2 : Int32) (w : AW) : Option (AW) :=
  if x2 = (1 : Int32) then
    gd (wk w a0 == 11) <|
    gd (wk w (wr w a0 2) == 8) <|
    (F_Dy_add (wr w a0 2) x1 w).bind fun r3 =>
    some r3
  else
    some w
theorem P_Al_put_29 {X : AX} {l : Launch} {G : AG} (hX : XOK X b_Al_put "RedSky$Almanac" 3) (hM : XM X l G { frames := 1, cells := 0, slots := 0, locals := 21 }) {o : AW} (hR : XR X none 0 0 none o) (a0 : Nat) (x1 : Int32) (x2 : Int32) (w : AW) (h : F_Al_put_29 a0 x1 x2 w = some o) : RJ X 3 0 0 29 [(0, vr a0), (1, vi x1), (2, vi x2)] [] w := by
  unfold F_Al_put_29 at h
  refine r_iload_n (i := 2) hX d_Al_put_29 2 rfl rfl ?_
  refine r_iconst (v := (1 : Int32)) hX d_Al_put_30 rfl ?_
  refine r_icmp_ne hX d_Al_put_31 rfl h (fun h => ?_) (fun h => ?_)
  · cases h; exact r_vret hX hR d_Al_put_42
  · refine r_aload_n (i := 0) hX d_Al_put_34 0 rfl rfl ?_
    obtain ⟨hk1, h⟩ := gd_e h
    refine r_getR (i := 10) (f := 2) hX ci_10 (by decide) rfl fl_Al_22 hk1 d_Al_put_35 ?_
    refine r_iload_n (i := 1) hX d_Al_put_38 1 rfl rfl ?_
    obtain ⟨hk2, h⟩ := gd_e h
    obtain ⟨r3, hr4, h⟩ := bd_e h
    refine r_callV0 (As := [_]) hX hM mw_Al_36 (T_Dy_add _ _ _ hr4) (rc_of ci_7 hk2) rfl rfl ⟨Nat.le_refl _, Nat.le_refl _⟩ rfl rfl d_Al_put_39 ?_
    cases h; exact r_vret hX hR d_Al_put_42
def F_Al_put (a0 : Nat) (x1 : Int32) (x2 : Int32) (w : AW) : Option (AW) :=
  gd (wk w a0 == 11) <|
  gd (wk w (wr w a0 1) == 8) <|
  (F_Dy_remove (wr w a0 1) x1 w).bind fun r3 =>
  gd (wk r3 a0 == 11) <|
  gd (wk r3 (wr r3 a0 2) == 8) <|
  (F_Dy_remove (wr r3 a0 2) x1 r3).bind fun r7 =>
  if x2 = (-1 : Int32) then
    F_Al_put_29 a0 x1 x2 r7
  else
    gd (wk r7 a0 == 11) <|
    gd (wk r7 (wr r7 a0 1) == 8) <|
    (F_Dy_add (wr r7 a0 1) x1 r7).bind fun r11 =>
    F_Al_put_29 a0 x1 x2 r11
theorem P_Al_put_0 {X : AX} {l : Launch} {G : AG} (hX : XOK X b_Al_put "RedSky$Almanac" 3) (hM : XM X l G { frames := 1, cells := 0, slots := 0, locals := 21 }) {o : AW} (hR : XR X none 0 0 none o) (a0 : Nat) (x1 : Int32) (x2 : Int32) (w : AW) (h : F_Al_put a0 x1 x2 w = some o) : RJ X 3 0 0 0 [(0, vr a0), (1, vi x1), (2, vi x2)] [] w := by
  unfold F_Al_put at h
  refine r_aload_n (i := 0) hX d_Al_put_0 0 rfl rfl ?_
  obtain ⟨hk1, h⟩ := gd_e h
  refine r_getR (i := 10) (f := 1) hX ci_10 (by decide) rfl fl_Al_18 hk1 d_Al_put_1 ?_
  refine r_iload_n (i := 1) hX d_Al_put_4 1 rfl rfl ?_
  obtain ⟨hk2, h⟩ := gd_e h
  obtain ⟨r3, hr4, h⟩ := bd_e h
  refine r_callV0 (As := [_]) hX hM mw_Al_32 (T_Dy_remove _ _ _ hr4) (rc_of ci_7 hk2) rfl rfl ⟨Nat.le_refl _, Nat.le_refl _⟩ rfl rfl d_Al_put_5 ?_
  refine r_aload_n (i := 0) hX d_Al_put_8 0 rfl rfl ?_
  obtain ⟨hk5, h⟩ := gd_e h
  refine r_getR (i := 10) (f := 2) hX ci_10 (by decide) rfl fl_Al_22 hk5 d_Al_put_9 ?_
  refine r_iload_n (i := 1) hX d_Al_put_12 1 rfl rfl ?_
  obtain ⟨hk6, h⟩ := gd_e h
  obtain ⟨r7, hr8, h⟩ := bd_e h
  refine r_callV0 (As := [_]) hX hM mw_Al_32 (T_Dy_remove _ _ _ hr8) (rc_of ci_7 hk6) rfl rfl ⟨Nat.le_refl _, Nat.le_refl _⟩ rfl rfl d_Al_put_13 ?_
  refine r_iload_n (i := 2) hX d_Al_put_16 2 rfl rfl ?_
  refine r_iconst (v := (-1 : Int32)) hX d_Al_put_17 rfl ?_
  refine r_icmp_eq hX d_Al_put_18 rfl h (fun h => ?_) (fun h => ?_)
  · exact rj_sub [0, 1, 2] rfl (P_Al_put_29 hX hM hR _ _ _ _ h)
  · refine r_aload_n (i := 0) hX d_Al_put_21 0 rfl rfl ?_
    obtain ⟨hk9, h⟩ := gd_e h
    refine r_getR (i := 10) (f := 1) hX ci_10 (by decide) rfl fl_Al_18 hk9 d_Al_put_22 ?_
    refine r_iload_n (i := 1) hX d_Al_put_25 1 rfl rfl ?_
    obtain ⟨hk10, h⟩ := gd_e h
    obtain ⟨r11, hr12, h⟩ := bd_e h
    refine r_callV0 (As := [_]) hX hM mw_Al_36 (T_Dy_add _ _ _ hr12) (rc_of ci_7 hk10) rfl rfl ⟨Nat.le_refl _, Nat.le_refl _⟩ rfl rfl d_Al_put_26 ?_
    exact rj_sub [0, 1, 2] rfl (P_Al_put_29 hX hM hR _ _ _ _ h)
theorem T_Al_put {l : Launch} {G : AG} (a0 : Nat) (x1 : Int32) (x2 : Int32) (w : AW) {o : AW} (h : F_Al_put a0 x1 x2 w = some o) : Mt l G y_Al_put b_Al_put 3 none 1 21 0 0 [vr a0, vi x1, vi x2] w none o := mt_of (by decide) (Nat.le_of_ble_eq_true rfl) (fun X hX hR hM hI => P_Al_put_0 hX hM hR _ _ _ _ h)
/-! RedSky$Almanac.drawDays(III)I -/
theorem d_Al_drawDays_0 : decode b_Al_drawDays 0 = .ok (.iload_n 3, 1) := by decide +kernel
theorem d_Al_drawDays_1 : decode b_Al_drawDays 1 = .ok (.istore 4, 2) := by decide +kernel
theorem d_Al_drawDays_3 : decode b_Al_drawDays 3 = .ok (.iconst 0, 1) := by decide +kernel
theorem d_Al_drawDays_4 : decode b_Al_drawDays 4 = .ok (.istore 5, 2) := by decide +kernel
theorem d_Al_drawDays_6 : decode b_Al_drawDays 6 = .ok (.iload_n 1, 1) := by decide +kernel
theorem d_Al_drawDays_7 : decode b_Al_drawDays 7 = .ok (.istore 6, 2) := by decide +kernel
theorem d_Al_drawDays_9 : decode b_Al_drawDays 9 = .ok (.iload 6, 2) := by decide +kernel
theorem d_Al_drawDays_11 : decode b_Al_drawDays 11 = .ok (.iload_n 2, 1) := by decide +kernel
theorem d_Al_drawDays_12 : decode b_Al_drawDays 12 = .ok (.if_icmp .ge (40), 3) := by decide +kernel
theorem d_Al_drawDays_15 : decode b_Al_drawDays 15 = .ok (.iload 4, 2) := by decide +kernel
theorem d_Al_drawDays_17 : decode b_Al_drawDays 17 = .ok (.invokestatic 39, 3) := by decide +kernel
theorem d_Al_drawDays_20 : decode b_Al_drawDays 20 = .ok (.istore 4, 2) := by decide +kernel
theorem d_Al_drawDays_22 : decode b_Al_drawDays 22 = .ok (.iload 4, 2) := by decide +kernel
theorem d_Al_drawDays_24 : decode b_Al_drawDays 24 = .ok (.ldc 43, 2) := by decide +kernel
theorem d_Al_drawDays_26 : decode b_Al_drawDays 26 = .ok (.idiv, 1) := by decide +kernel
theorem d_Al_drawDays_27 : decode b_Al_drawDays 27 = .ok (.iconst 2, 1) := by decide +kernel
theorem d_Al_drawDays_28 : decode b_Al_drawDays 28 = .ok (.irem, 1) := by decide +kernel
theorem d_Al_drawDays_29 : decode b_Al_drawDays 29 = .ok (.istore 7, 2) := by decide +kernel
theorem d_Al_drawDays_31 : decode b_Al_drawDays 31 = .ok (.aload_n 0, 1) := by decide +kernel
theorem d_Al_drawDays_32 : decode b_Al_drawDays 32 = .ok (.iload 6, 2) := by decide +kernel
theorem d_Al_drawDays_34 : decode b_Al_drawDays 34 = .ok (.iload 7, 2) := by decide +kernel
theorem d_Al_drawDays_36 : decode b_Al_drawDays 36 = .ok (.invokevirtual 44, 3) := by decide +kernel
theorem d_Al_drawDays_39 : decode b_Al_drawDays 39 = .ok (.iload 5, 2) := by decide +kernel
theorem d_Al_drawDays_41 : decode b_Al_drawDays 41 = .ok (.iload 7, 2) := by decide +kernel
theorem d_Al_drawDays_43 : decode b_Al_drawDays 43 = .ok (.iadd, 1) := by decide +kernel
theorem d_Al_drawDays_44 : decode b_Al_drawDays 44 = .ok (.istore 5, 2) := by decide +kernel
theorem d_Al_drawDays_46 : decode b_Al_drawDays 46 = .ok (.iinc 6 (1), 3) := by decide +kernel
theorem d_Al_drawDays_49 : decode b_Al_drawDays 49 = .ok (.goto (-40), 3) := by decide +kernel
theorem d_Al_drawDays_52 : decode b_Al_drawDays 52 = .ok (.iload 5, 2) := by decide +kernel
theorem d_Al_drawDays_54 : decode b_Al_drawDays 54 = .ok (.ireturn, 1) := by decide +kernel
def F_Al_drawDays_9_B (rec9 : Nat → Int32 → Int32 → Int32 → Int32 → AW → Option (Int32 × AW)) (a0 : Nat) (x2 : Int32) (x4 : Int32) (x5 : Int32) (x6 : Int32) (w : AW) : Option (Int32 × AW) :=
  if x2 ≤ x6 then
    some (x5, w)
  else
    let v1 : Int32 := (F_A_nextSeed x4)
    let v2 : Int32 := (irem (v1 / (65536 : Int32)) (2 : Int32))
    gd (wk w a0 == 11) <|
    (F_Al_put a0 x6 v2 w).bind fun r4 =>
    let v6 : Int32 := (x5 + v2)
    let v7 : Int32 := (x6 + (1 : Int32))
    rec9 a0 x2 v1 v6 v7 r4
theorem P_Al_drawDays_9_B {X : AX} {l : Launch} {G : AG} {rec9 : Nat → Int32 → Int32 → Int32 → Int32 → AW → Option (Int32 × AW)} (hX : XOK X b_Al_drawDays "RedSky$Almanac" 8) (hM : XM X l G { frames := 2, cells := 0, slots := 0, locals := 43 }) {o : Int32 × AW} (hR : XR X (some .int) 0 0 (some (vi o.1)) o.2) (hrec9 : ∀ (a0 : Nat) (x2 : Int32) (x4 : Int32) (x5 : Int32) (x6 : Int32) (w : AW), rec9 a0 x2 x4 x5 x6 w = some o → RJ X 8 0 0 9 [(0, vr a0), (2, vi x2), (4, vi x4), (5, vi x5), (6, vi x6)] [] w) (a0 : Nat) (x2 : Int32) (x4 : Int32) (x5 : Int32) (x6 : Int32) (w : AW) (h : F_Al_drawDays_9_B rec9 a0 x2 x4 x5 x6 w = some o) : RJ X 8 0 0 9 [(0, vr a0), (2, vi x2), (4, vi x4), (5, vi x5), (6, vi x6)] [] w := by
  unfold F_Al_drawDays_9_B at h
  refine r_iload (i := 6) hX d_Al_drawDays_9 4  rfl ?_
  refine r_iload_n (i := 2) hX d_Al_drawDays_11 1 rfl rfl ?_
  refine r_icmp_ge hX d_Al_drawDays_12 rfl h (fun h => ?_) (fun h => ?_)
  · refine r_iload (i := 5) hX d_Al_drawDays_52 3  rfl ?_
    cases h; exact r_iret hX hR d_Al_drawDays_54
  · refine r_iload (i := 4) hX d_Al_drawDays_15 2  rfl ?_
    refine r_callSN1 (As := [_]) hX hM mw_Al_39 (T_A_nextSeed _ _) rfl rfl ⟨Nat.le_refl _, Nat.le_refl _⟩ rfl rfl d_Al_drawDays_17 ?_
    refine r_istore (i := 4) hX d_Al_drawDays_20  (by decide) ?_
    refine r_iload (i := 4) hX d_Al_drawDays_22 0  rfl ?_
    refine r_ldc hX d_Al_drawDays_24 cw_Al_43 ?_
    refine r_idiv hX d_Al_drawDays_26 (by decide) ?_
    refine r_iconst (v := (2 : Int32)) hX d_Al_drawDays_27 rfl ?_
    refine r_irem hX d_Al_drawDays_28 (by decide) ?_
    refine r_istore (i := 7) hX d_Al_drawDays_29  (by decide) ?_
    refine r_aload_n (i := 0) hX d_Al_drawDays_31 2 rfl rfl ?_
    refine r_iload (i := 6) hX d_Al_drawDays_32 5  rfl ?_
    refine r_iload (i := 7) hX d_Al_drawDays_34 0  rfl ?_
    obtain ⟨hk3, h⟩ := gd_e h
    obtain ⟨r4, hr5, h⟩ := bd_e h
    refine r_callV0 (As := [_, _]) hX hM mw_Al_44 (T_Al_put _ _ _ _ hr5) (rc_of ci_10 hk3) rfl rfl ⟨Nat.le_refl _, Nat.le_refl _⟩ rfl rfl d_Al_drawDays_36 ?_
    refine r_iload (i := 5) hX d_Al_drawDays_39 4  rfl ?_
    refine r_iload (i := 7) hX d_Al_drawDays_41 0  rfl ?_
    refine r_iadd hX d_Al_drawDays_43 ?_
    refine r_istore (i := 5) hX d_Al_drawDays_44  (by decide) ?_
    refine r_iinc (i := 6) (v := (1 : Int32)) hX d_Al_drawDays_46 5 rfl rfl (by decide) ?_
    refine r_goto hX d_Al_drawDays_49 rfl ?_
    exact rj_sub [4, 5, 3, 1, 0] rfl (hrec9 _ _ _ _ _ _ h)
def F_Al_drawDays_9 : Nat → Nat → Int32 → Int32 → Int32 → Int32 → AW → Option (Int32 × AW)
  | 0 => fun _ _ _ _ _ _ => none
  | n + 1 => fun a0 x2 x4 x5 x6 w => F_Al_drawDays_9_B (F_Al_drawDays_9 n) a0 x2 x4 x5 x6 w
theorem P_Al_drawDays_9 {X : AX} {l : Launch} {G : AG} (hX : XOK X b_Al_drawDays "RedSky$Almanac" 8) (hM : XM X l G { frames := 2, cells := 0, slots := 0, locals := 43 }) {o : Int32 × AW} (hR : XR X (some .int) 0 0 (some (vi o.1)) o.2) (fu : Nat) : ∀ (a0 : Nat) (x2 : Int32) (x4 : Int32) (x5 : Int32) (x6 : Int32) (w : AW), F_Al_drawDays_9 fu a0 x2 x4 x5 x6 w = some o → RJ X 8 0 0 9 [(0, vr a0), (2, vi x2), (4, vi x4), (5, vi x5), (6, vi x6)] [] w := by
  induction fu with
  | zero => intro a0 x2 x4 x5 x6 w h; cases h
  | succ n9 ih => intro a0 x2 x4 x5 x6 w h; exact P_Al_drawDays_9_B hX hM hR ih _ _ _ _ _ _ h
def F_Al_drawDays (a0 : Nat) (x1 : Int32) (x2 : Int32) (x3 : Int32) (w : AW) : Option (Int32 × AW) :=
  F_Al_drawDays_9 FUEL a0 x2 x3 (0 : Int32) x1 w
theorem P_Al_drawDays_0 {X : AX} {l : Launch} {G : AG} (hX : XOK X b_Al_drawDays "RedSky$Almanac" 8) (hM : XM X l G { frames := 2, cells := 0, slots := 0, locals := 43 }) {o : Int32 × AW} (hR : XR X (some .int) 0 0 (some (vi o.1)) o.2) (a0 : Nat) (x1 : Int32) (x2 : Int32) (x3 : Int32) (w : AW) (h : F_Al_drawDays a0 x1 x2 x3 w = some o) : RJ X 8 0 0 0 [(0, vr a0), (1, vi x1), (2, vi x2), (3, vi x3)] [] w := by
  unfold F_Al_drawDays at h
  refine r_iload_n (i := 3) hX d_Al_drawDays_0 3 rfl rfl ?_
  refine r_istore (i := 4) hX d_Al_drawDays_1  (by decide) ?_
  refine r_iconst (v := (0 : Int32)) hX d_Al_drawDays_3 rfl ?_
  refine r_istore (i := 5) hX d_Al_drawDays_4  (by decide) ?_
  refine r_iload_n (i := 1) hX d_Al_drawDays_6 3 rfl rfl ?_
  refine r_istore (i := 6) hX d_Al_drawDays_7  (by decide) ?_
  exact rj_sub [3, 5, 2, 1, 0] rfl (P_Al_drawDays_9 hX hM hR FUEL _ _ _ _ _ _ h)
theorem T_Al_drawDays {l : Launch} {G : AG} (a0 : Nat) (x1 : Int32) (x2 : Int32) (x3 : Int32) (w : AW) {o : Int32 × AW} (h : F_Al_drawDays a0 x1 x2 x3 w = some o) : Mt l G y_Al_drawDays b_Al_drawDays 8 (some (.int)) 2 43 0 0 [vr a0, vi x1, vi x2, vi x3] w (some (vi o.1)) o.2 := mt_of (by decide) (Nat.le_of_ble_eq_true rfl) (fun X hX hR hM hI => P_Al_drawDays_0 hX hM hR _ _ _ _ _ h)
/-! RedSky.draw(III)I -/
theorem d_A_draw_0 : decode b_A_draw 0 = .ok (.aload_n 0, 1) := by decide +kernel
theorem d_A_draw_1 : decode b_A_draw 1 = .ok (.iload_n 1, 1) := by decide +kernel
theorem d_A_draw_2 : decode b_A_draw 2 = .ok (.invokevirtual 295, 3) := by decide +kernel
theorem d_A_draw_5 : decode b_A_draw 5 = .ok (.astore 4, 2) := by decide +kernel
theorem d_A_draw_7 : decode b_A_draw 7 = .ok (.aload 4, 2) := by decide +kernel
theorem d_A_draw_9 : decode b_A_draw 9 = .ok (.ifnull (10), 3) := by decide +kernel
theorem d_A_draw_12 : decode b_A_draw 12 = .ok (.iload_n 2, 1) := by decide +kernel
theorem d_A_draw_13 : decode b_A_draw 13 = .ok (.invokestatic 97, 3) := by decide +kernel
theorem d_A_draw_16 : decode b_A_draw 16 = .ok (.ifCond .ne (6), 3) := by decide +kernel
theorem d_A_draw_19 : decode b_A_draw 19 = .ok (.bipush (-101), 2) := by decide +kernel
theorem d_A_draw_21 : decode b_A_draw 21 = .ok (.ireturn, 1) := by decide +kernel
theorem d_A_draw_22 : decode b_A_draw 22 = .ok (.iload_n 3, 1) := by decide +kernel
theorem d_A_draw_23 : decode b_A_draw 23 = .ok (.ifCond .ge (6), 3) := by decide +kernel
theorem d_A_draw_26 : decode b_A_draw 26 = .ok (.bipush (-102), 2) := by decide +kernel
theorem d_A_draw_28 : decode b_A_draw 28 = .ok (.ireturn, 1) := by decide +kernel
theorem d_A_draw_29 : decode b_A_draw 29 = .ok (.aload 4, 2) := by decide +kernel
theorem d_A_draw_31 : decode b_A_draw 31 = .ok (.aload_n 0, 1) := by decide +kernel
theorem d_A_draw_32 : decode b_A_draw 32 = .ok (.getfield 10, 3) := by decide +kernel
theorem d_A_draw_35 : decode b_A_draw 35 = .ok (.iload_n 2, 1) := by decide +kernel
theorem d_A_draw_36 : decode b_A_draw 36 = .ok (.invokevirtual 145, 3) := by decide +kernel
theorem d_A_draw_39 : decode b_A_draw 39 = .ok (.aload_n 0, 1) := by decide +kernel
theorem d_A_draw_40 : decode b_A_draw 40 = .ok (.getfield 10, 3) := by decide +kernel
theorem d_A_draw_43 : decode b_A_draw 43 = .ok (.iload_n 2, 1) := by decide +kernel
theorem d_A_draw_44 : decode b_A_draw 44 = .ok (.invokevirtual 148, 3) := by decide +kernel
theorem d_A_draw_47 : decode b_A_draw 47 = .ok (.iload_n 3, 1) := by decide +kernel
theorem d_A_draw_48 : decode b_A_draw 48 = .ok (.invokevirtual 302, 3) := by decide +kernel
theorem d_A_draw_51 : decode b_A_draw 51 = .ok (.ireturn, 1) := by decide +kernel
def F_A_draw (a0 : Nat) (x1 : Int32) (x2 : Int32) (x3 : Int32) (w : AW) : Option (Int32 × AW) :=
  gd (wk w a0 == 1) <|
  (F_A_almanacOf w a0 x1).bind fun r2 =>
  if r2 = 0 then
    some ((-101 : Int32), w)
  else
    if (F_A_isYear x2) = 0 then
      some ((-101 : Int32), w)
    else
      if 0 ≤ x3 then
        gd (wk w (wr w a0 0) == 2) <|
        (F_Ca_startOf w (wr w a0 0) x2).bind fun r5 =>
        (F_Ca_endOf w (wr w a0 0) x2).bind fun r7 =>
        gd (wk w r2 == 11) <|
        (F_Al_drawDays r2 r5 r7 x3 w).bind fun r10 =>
        some (r10.1, r10.2)
      else
        some ((-102 : Int32), w)
theorem P_A_draw_0 {X : AX} {l : Launch} {G : AG} (hX : XOK X b_A_draw "RedSky" 5) (hM : XM X l G { frames := 3, cells := 0, slots := 0, locals := 70 }) {o : Int32 × AW} (hR : XR X (some .int) 0 0 (some (vi o.1)) o.2) (a0 : Nat) (x1 : Int32) (x2 : Int32) (x3 : Int32) (w : AW) (h : F_A_draw a0 x1 x2 x3 w = some o) : RJ X 5 0 0 0 [(0, vr a0), (1, vi x1), (2, vi x2), (3, vi x3)] [] w := by
  unfold F_A_draw at h
  refine r_aload_n (i := 0) hX d_A_draw_0 0 rfl rfl ?_
  refine r_iload_n (i := 1) hX d_A_draw_1 1 rfl rfl ?_
  obtain ⟨hk1, h⟩ := gd_e h
  obtain ⟨r2, hr3, h⟩ := bd_e h
  refine r_callV1 (As := [_]) hX hM mw_A_295 (T_A_almanacOf _ _ _ hr3) (rc_of ci_0 hk1) rfl rfl ⟨Nat.le_refl _, Nat.le_refl _⟩ rfl rfl d_A_draw_2 ?_
  refine r_astore (i := 4) hX d_A_draw_5  (by decide) ?_
  refine r_aload (i := 4) hX d_A_draw_7 0  rfl ?_
  refine r_ifnull hX d_A_draw_9 rfl h (fun h => ?_) (fun h => ?_)
  · refine r_bipush (v := (-101 : Int32)) hX d_A_draw_19 rfl ?_
    cases h; exact r_iret hX hR d_A_draw_21
  · refine r_iload_n (i := 2) hX d_A_draw_12 3 rfl rfl ?_
    refine r_callS1 (As := [_]) hX hM mw_A_97 (T_A_isYear _ _) rfl rfl ⟨Nat.le_refl _, Nat.le_refl _⟩ rfl rfl d_A_draw_13 ?_
    refine r_if_ne hX d_A_draw_16 rfl h (fun h => ?_) (fun h => ?_)
    · refine r_iload_n (i := 3) hX d_A_draw_22 4 rfl rfl ?_
      refine r_if_ge hX d_A_draw_23 rfl h (fun h => ?_) (fun h => ?_)
      · refine r_aload (i := 4) hX d_A_draw_29 0  rfl ?_
        refine r_aload_n (i := 0) hX d_A_draw_31 1 rfl rfl ?_
        refine r_getR (i := 0) (f := 0) hX ci_0 (by decide) rfl fl_A_10 hk1 d_A_draw_32 ?_
        refine r_iload_n (i := 2) hX d_A_draw_35 3 rfl rfl ?_
        obtain ⟨hk4, h⟩ := gd_e h
        obtain ⟨r5, hr6, h⟩ := bd_e h
        refine r_callV1 (As := [_]) hX hM mw_A_145 (T_Ca_startOf _ _ _ hr6) (rc_of ci_1 hk4) rfl rfl ⟨Nat.le_refl _, Nat.le_refl _⟩ rfl rfl d_A_draw_36 ?_
        refine r_aload_n (i := 0) hX d_A_draw_39 1 rfl rfl ?_
        refine r_getR (i := 0) (f := 0) hX ci_0 (by decide) rfl fl_A_10 hk1 d_A_draw_40 ?_
        refine r_iload_n (i := 2) hX d_A_draw_43 3 rfl rfl ?_
        obtain ⟨r7, hr8, h⟩ := bd_e h
        refine r_callV1 (As := [_]) hX hM mw_A_148 (T_Ca_endOf _ _ _ hr8) (rc_of ci_1 hk4) rfl rfl ⟨Nat.le_refl _, Nat.le_refl _⟩ rfl rfl d_A_draw_44 ?_
        refine r_iload_n (i := 3) hX d_A_draw_47 4 rfl rfl ?_
        obtain ⟨hk9, h⟩ := gd_e h
        obtain ⟨r10, hr11, h⟩ := bd_e h
        refine r_callV1 (As := [_, _, _]) hX hM mw_A_302 (T_Al_drawDays _ _ _ _ _ hr11) (rc_of ci_10 hk9) rfl rfl ⟨Nat.le_refl _, Nat.le_refl _⟩ rfl rfl d_A_draw_48 ?_
        cases h; exact r_iret hX hR d_A_draw_51
      · refine r_bipush (v := (-102 : Int32)) hX d_A_draw_26 rfl ?_
        cases h; exact r_iret hX hR d_A_draw_28
    · refine r_bipush (v := (-101 : Int32)) hX d_A_draw_19 rfl ?_
      cases h; exact r_iret hX hR d_A_draw_21
theorem T_A_draw {l : Launch} {G : AG} (a0 : Nat) (x1 : Int32) (x2 : Int32) (x3 : Int32) (w : AW) {o : Int32 × AW} (h : F_A_draw a0 x1 x2 x3 w = some o) : Mt l G y_A_draw b_A_draw 5 (some (.int)) 3 70 0 0 [vr a0, vi x1, vi x2, vi x3] w (some (vi o.1)) o.2 := mt_of (by decide) (Nat.le_of_ble_eq_true rfl) (fun X hX hR hM hI => P_A_draw_0 hX hM hR _ _ _ _ _ h)
/-! RedSkyModel.draw(III)I -/
theorem d_M_draw_0 : decode b_M_draw 0 = .ok (.iload_n 1, 1) := by decide +kernel
theorem d_M_draw_1 : decode b_M_draw 1 = .ok (.invokestatic 372, 3) := by decide +kernel
theorem d_M_draw_4 : decode b_M_draw 4 = .ok (.ifCond .eq (15), 3) := by decide +kernel
theorem d_M_draw_7 : decode b_M_draw 7 = .ok (.iload_n 2, 1) := by decide +kernel
theorem d_M_draw_8 : decode b_M_draw 8 = .ok (.i2l, 1) := by decide +kernel
theorem d_M_draw_9 : decode b_M_draw 9 = .ok (.lconst 0, 1) := by decide +kernel
theorem d_M_draw_10 : decode b_M_draw 10 = .ok (.ldc2_w 126, 3) := by decide +kernel
theorem d_M_draw_13 : decode b_M_draw 13 = .ok (.invokestatic 122, 3) := by decide +kernel
theorem d_M_draw_16 : decode b_M_draw 16 = .ok (.ifCond .ne (6), 3) := by decide +kernel
theorem d_M_draw_19 : decode b_M_draw 19 = .ok (.bipush (-101), 2) := by decide +kernel
theorem d_M_draw_21 : decode b_M_draw 21 = .ok (.ireturn, 1) := by decide +kernel
theorem d_M_draw_22 : decode b_M_draw 22 = .ok (.iload_n 3, 1) := by decide +kernel
theorem d_M_draw_23 : decode b_M_draw 23 = .ok (.ifCond .ge (6), 3) := by decide +kernel
theorem d_M_draw_26 : decode b_M_draw 26 = .ok (.bipush (-102), 2) := by decide +kernel
theorem d_M_draw_28 : decode b_M_draw 28 = .ok (.ireturn, 1) := by decide +kernel
theorem d_M_draw_29 : decode b_M_draw 29 = .ok (.iconst 0, 1) := by decide +kernel
theorem d_M_draw_30 : decode b_M_draw 30 = .ok (.istore 4, 2) := by decide +kernel
theorem d_M_draw_32 : decode b_M_draw 32 = .ok (.iload_n 3, 1) := by decide +kernel
theorem d_M_draw_33 : decode b_M_draw 33 = .ok (.istore 5, 2) := by decide +kernel
theorem d_M_draw_35 : decode b_M_draw 35 = .ok (.aload_n 0, 1) := by decide +kernel
theorem d_M_draw_36 : decode b_M_draw 36 = .ok (.iload_n 2, 1) := by decide +kernel
theorem d_M_draw_37 : decode b_M_draw 37 = .ok (.iconst 1, 1) := by decide +kernel
theorem d_M_draw_38 : decode b_M_draw 38 = .ok (.invokevirtual 110, 3) := by decide +kernel
theorem d_M_draw_41 : decode b_M_draw 41 = .ok (.istore 6, 2) := by decide +kernel
theorem d_M_draw_43 : decode b_M_draw 43 = .ok (.iload 6, 2) := by decide +kernel
theorem d_M_draw_45 : decode b_M_draw 45 = .ok (.aload_n 0, 1) := by decide +kernel
theorem d_M_draw_46 : decode b_M_draw 46 = .ok (.iload_n 2, 1) := by decide +kernel
theorem d_M_draw_47 : decode b_M_draw 47 = .ok (.invokevirtual 160, 3) := by decide +kernel
theorem d_M_draw_50 : decode b_M_draw 50 = .ok (.if_icmp .ge (48), 3) := by decide +kernel
theorem d_M_draw_53 : decode b_M_draw 53 = .ok (.iload 5, 2) := by decide +kernel
theorem d_M_draw_55 : decode b_M_draw 55 = .ok (.invokestatic 163, 3) := by decide +kernel
theorem d_M_draw_58 : decode b_M_draw 58 = .ok (.istore 5, 2) := by decide +kernel
theorem d_M_draw_60 : decode b_M_draw 60 = .ok (.aload_n 0, 1) := by decide +kernel
theorem d_M_draw_61 : decode b_M_draw 61 = .ok (.getfield 28, 3) := by decide +kernel
theorem d_M_draw_64 : decode b_M_draw 64 = .ok (.sipush (1461), 3) := by decide +kernel
theorem d_M_draw_67 : decode b_M_draw 67 = .ok (.iload_n 1, 1) := by decide +kernel
theorem d_M_draw_68 : decode b_M_draw 68 = .ok (.imul, 1) := by decide +kernel
theorem d_M_draw_69 : decode b_M_draw 69 = .ok (.iload 6, 2) := by decide +kernel
theorem d_M_draw_71 : decode b_M_draw 71 = .ok (.iadd, 1) := by decide +kernel
theorem d_M_draw_72 : decode b_M_draw 72 = .ok (.iload 5, 2) := by decide +kernel
theorem d_M_draw_74 : decode b_M_draw 74 = .ok (.ldc 166, 2) := by decide +kernel
theorem d_M_draw_76 : decode b_M_draw 76 = .ok (.idiv, 1) := by decide +kernel
theorem d_M_draw_77 : decode b_M_draw 77 = .ok (.iconst 2, 1) := by decide +kernel
theorem d_M_draw_78 : decode b_M_draw 78 = .ok (.irem, 1) := by decide +kernel
theorem d_M_draw_79 : decode b_M_draw 79 = .ok (.iastore, 1) := by decide +kernel
theorem d_M_draw_80 : decode b_M_draw 80 = .ok (.iload 4, 2) := by decide +kernel
theorem d_M_draw_82 : decode b_M_draw 82 = .ok (.iload 5, 2) := by decide +kernel
theorem d_M_draw_84 : decode b_M_draw 84 = .ok (.ldc 166, 2) := by decide +kernel
theorem d_M_draw_86 : decode b_M_draw 86 = .ok (.idiv, 1) := by decide +kernel
theorem d_M_draw_87 : decode b_M_draw 87 = .ok (.iconst 2, 1) := by decide +kernel
theorem d_M_draw_88 : decode b_M_draw 88 = .ok (.irem, 1) := by decide +kernel
theorem d_M_draw_89 : decode b_M_draw 89 = .ok (.iadd, 1) := by decide +kernel
theorem d_M_draw_90 : decode b_M_draw 90 = .ok (.istore 4, 2) := by decide +kernel
theorem d_M_draw_92 : decode b_M_draw 92 = .ok (.iinc 6 (1), 3) := by decide +kernel
theorem d_M_draw_95 : decode b_M_draw 95 = .ok (.goto (-52), 3) := by decide +kernel
theorem d_M_draw_98 : decode b_M_draw 98 = .ok (.iload 4, 2) := by decide +kernel
theorem d_M_draw_100 : decode b_M_draw 100 = .ok (.ireturn, 1) := by decide +kernel
def F_M_draw_43_B (rec43 : Nat → Int32 → Int32 → Int32 → Int32 → Int32 → AW → Option (Int32 × AW)) (a0 : Nat) (x1 : Int32) (x2 : Int32) (x4 : Int32) (x5 : Int32) (x6 : Int32) (w : AW) : Option (Int32 × AW) :=
  gd (wk w a0 == 13) <|
  (F_M_yearEnd w a0 x2).bind fun r2 =>
  if r2 ≤ x6 then
    some (x4, w)
  else
    let v4 : Int32 := (F_M_next x5)
    gd (wk w (wr w a0 7) == 100) <|
    gd (inb (((1461 : Int32) * x1) + x6) (wn w (wr w a0 7))) <|
    let w7 : AW := upI w (wr w a0 7) (Int32.toNatClampNeg (((1461 : Int32) * x1) + x6)) (irem (v4 / (65536 : Int32)) (2 : Int32))
    let v8 : Int32 := (x4 + (irem (v4 / (65536 : Int32)) (2 : Int32)))
    let v9 : Int32 := (x6 + (1 : Int32))
    rec43 a0 x1 x2 v8 v4 v9 w7
theorem P_M_draw_43_B {X : AX} {l : Launch} {G : AG} {rec43 : Nat → Int32 → Int32 → Int32 → Int32 → Int32 → AW → Option (Int32 × AW)} (hX : XOK X b_M_draw "RedSkyModel" 7) (hM : XM X l G { frames := 4, cells := 0, slots := 0, locals := 88 }) {o : Int32 × AW} (hR : XR X (some .int) 0 0 (some (vi o.1)) o.2) (hrec43 : ∀ (a0 : Nat) (x1 : Int32) (x2 : Int32) (x4 : Int32) (x5 : Int32) (x6 : Int32) (w : AW), rec43 a0 x1 x2 x4 x5 x6 w = some o → RJ X 7 0 0 43 [(0, vr a0), (1, vi x1), (2, vi x2), (4, vi x4), (5, vi x5), (6, vi x6)] [] w) (a0 : Nat) (x1 : Int32) (x2 : Int32) (x4 : Int32) (x5 : Int32) (x6 : Int32) (w : AW) (h : F_M_draw_43_B rec43 a0 x1 x2 x4 x5 x6 w = some o) : RJ X 7 0 0 43 [(0, vr a0), (1, vi x1), (2, vi x2), (4, vi x4), (5, vi x5), (6, vi x6)] [] w := by
  unfold F_M_draw_43_B at h
  refine r_iload (i := 6) hX d_M_draw_43 5  rfl ?_
  refine r_aload_n (i := 0) hX d_M_draw_45 0 rfl rfl ?_
  refine r_iload_n (i := 2) hX d_M_draw_46 2 rfl rfl ?_
  obtain ⟨hk1, h⟩ := gd_e h
  obtain ⟨r2, hr3, h⟩ := bd_e h
  refine r_callV1 (As := [_]) hX hM mw_M_160 (T_M_yearEnd _ _ _ hr3) (rc_of ci_12 hk1) rfl rfl ⟨Nat.le_refl _, Nat.le_refl _⟩ rfl rfl d_M_draw_47 ?_
  refine r_icmp_ge hX d_M_draw_50 rfl h (fun h => ?_) (fun h => ?_)
  · refine r_iload (i := 4) hX d_M_draw_98 3  rfl ?_
    cases h; exact r_iret hX hR d_M_draw_100
  · refine r_iload (i := 5) hX d_M_draw_53 4  rfl ?_
    refine r_callS1 (As := [_]) hX hM mw_M_163 (T_M_next _ _) rfl rfl ⟨Nat.le_refl _, Nat.le_refl _⟩ rfl rfl d_M_draw_55 ?_
    refine r_istore (i := 5) hX d_M_draw_58  (by decide) ?_
    refine r_aload_n (i := 0) hX d_M_draw_60 1 rfl rfl ?_
    refine r_getR (i := 12) (f := 7) hX ci_12 (by decide) rfl fl_M_28 hk1 d_M_draw_61 ?_
    refine r_sipush (v := (1461 : Int32)) hX d_M_draw_64 rfl ?_
    refine r_iload_n (i := 1) hX d_M_draw_67 2 rfl rfl ?_
    refine r_imul hX d_M_draw_68 ?_
    refine r_iload (i := 6) hX d_M_draw_69 5  rfl ?_
    refine r_iadd hX d_M_draw_71 ?_
    refine r_iload (i := 5) hX d_M_draw_72 0  rfl ?_
    refine r_ldc hX d_M_draw_74 cw_M_166 ?_
    refine r_idiv hX d_M_draw_76 (by decide) ?_
    refine r_iconst (v := (2 : Int32)) hX d_M_draw_77 rfl ?_
    refine r_irem hX d_M_draw_78 (by decide) ?_
    obtain ⟨hk5, h⟩ := gd_e h
    obtain ⟨hg6, h⟩ := gd_e h
    refine r_iast hX hk5 hg6 d_M_draw_79 ?_
    refine r_iload (i := 4) hX d_M_draw_80 4  rfl ?_
    refine r_iload (i := 5) hX d_M_draw_82 0  rfl ?_
    refine r_ldc hX d_M_draw_84 cw_M_166 ?_
    refine r_idiv hX d_M_draw_86 (by decide) ?_
    refine r_iconst (v := (2 : Int32)) hX d_M_draw_87 rfl ?_
    refine r_irem hX d_M_draw_88 (by decide) ?_
    refine r_iadd hX d_M_draw_89 ?_
    refine r_istore (i := 4) hX d_M_draw_90  (by decide) ?_
    refine r_iinc (i := 6) (v := (1 : Int32)) hX d_M_draw_92 5 rfl rfl (by decide) ?_
    refine r_goto hX d_M_draw_95 rfl ?_
    exact rj_sub [3, 4, 5, 1, 2, 0] rfl (hrec43 _ _ _ _ _ _ _ h)
def F_M_draw_43 : Nat → Nat → Int32 → Int32 → Int32 → Int32 → Int32 → AW → Option (Int32 × AW)
  | 0 => fun _ _ _ _ _ _ _ => none
  | n + 1 => fun a0 x1 x2 x4 x5 x6 w => F_M_draw_43_B (F_M_draw_43 n) a0 x1 x2 x4 x5 x6 w
theorem P_M_draw_43 {X : AX} {l : Launch} {G : AG} (hX : XOK X b_M_draw "RedSkyModel" 7) (hM : XM X l G { frames := 4, cells := 0, slots := 0, locals := 88 }) {o : Int32 × AW} (hR : XR X (some .int) 0 0 (some (vi o.1)) o.2) (fu : Nat) : ∀ (a0 : Nat) (x1 : Int32) (x2 : Int32) (x4 : Int32) (x5 : Int32) (x6 : Int32) (w : AW), F_M_draw_43 fu a0 x1 x2 x4 x5 x6 w = some o → RJ X 7 0 0 43 [(0, vr a0), (1, vi x1), (2, vi x2), (4, vi x4), (5, vi x5), (6, vi x6)] [] w := by
  induction fu with
  | zero => intro a0 x1 x2 x4 x5 x6 w h; cases h
  | succ n9 ih => intro a0 x1 x2 x4 x5 x6 w h; exact P_M_draw_43_B hX hM hR ih _ _ _ _ _ _ _ h
def F_M_draw (a0 : Nat) (x1 : Int32) (x2 : Int32) (x3 : Int32) (w : AW) : Option (Int32 × AW) :=
  if (F_M_isAlmanac x1) = 0 then
    some ((-101 : Int32), w)
  else
    if (F_M_in (Int32.toInt64 x2) (0 : Int64) (3 : Int64)) = 0 then
      some ((-101 : Int32), w)
    else
      if 0 ≤ x3 then
        gd (wk w a0 == 13) <|
        (F_M_begin w a0 x2 (1 : Int32)).bind fun r2 =>
        F_M_draw_43 FUEL a0 x1 x2 (0 : Int32) x3 r2 w
      else
        some ((-102 : Int32), w)
theorem P_M_draw_0 {X : AX} {l : Launch} {G : AG} (hX : XOK X b_M_draw "RedSkyModel" 7) (hM : XM X l G { frames := 4, cells := 0, slots := 0, locals := 88 }) {o : Int32 × AW} (hR : XR X (some .int) 0 0 (some (vi o.1)) o.2) (a0 : Nat) (x1 : Int32) (x2 : Int32) (x3 : Int32) (w : AW) (h : F_M_draw a0 x1 x2 x3 w = some o) : RJ X 7 0 0 0 [(0, vr a0), (1, vi x1), (2, vi x2), (3, vi x3)] [] w := by
  unfold F_M_draw at h
  refine r_iload_n (i := 1) hX d_M_draw_0 1 rfl rfl ?_
  refine r_callS1 (As := [_]) hX hM mw_M_372 (T_M_isAlmanac _ _) rfl rfl ⟨Nat.le_refl _, Nat.le_refl _⟩ rfl rfl d_M_draw_1 ?_
  refine r_if_eq hX d_M_draw_4 rfl h (fun h => ?_) (fun h => ?_)
  · refine r_bipush (v := (-101 : Int32)) hX d_M_draw_19 rfl ?_
    cases h; exact r_iret hX hR d_M_draw_21
  · refine r_iload_n (i := 2) hX d_M_draw_7 2 rfl rfl ?_
    refine r_i2l hX d_M_draw_8 ?_
    refine r_lconst (v := (0 : Int64)) hX d_M_draw_9 rfl ?_
    refine r_ldc2 hX d_M_draw_10 cw_M_126 ?_
    refine r_callS1 (As := [_, _, _]) hX hM mw_M_122 (T_M_in _ _ _ _) rfl rfl ⟨Nat.le_refl _, Nat.le_refl _⟩ rfl rfl d_M_draw_13 ?_
    refine r_if_ne hX d_M_draw_16 rfl h (fun h => ?_) (fun h => ?_)
    · refine r_iload_n (i := 3) hX d_M_draw_22 3 rfl rfl ?_
      refine r_if_ge hX d_M_draw_23 rfl h (fun h => ?_) (fun h => ?_)
      · refine r_iconst (v := (0 : Int32)) hX d_M_draw_29 rfl ?_
        refine r_istore (i := 4) hX d_M_draw_30  (by decide) ?_
        refine r_iload_n (i := 3) hX d_M_draw_32 4 rfl rfl ?_
        refine r_istore (i := 5) hX d_M_draw_33  (by decide) ?_
        refine r_aload_n (i := 0) hX d_M_draw_35 2 rfl rfl ?_
        refine r_iload_n (i := 2) hX d_M_draw_36 4 rfl rfl ?_
        refine r_iconst (v := (1 : Int32)) hX d_M_draw_37 rfl ?_
        obtain ⟨hk1, h⟩ := gd_e h
        obtain ⟨r2, hr3, h⟩ := bd_e h
        refine r_callV1 (As := [_, _]) hX hM mw_M_110 (T_M_begin _ _ _ _ hr3) (rc_of ci_12 hk1) rfl rfl ⟨Nat.le_refl _, Nat.le_refl _⟩ rfl rfl d_M_draw_38 ?_
        refine r_istore (i := 6) hX d_M_draw_41  (by decide) ?_
        exact rj_sub [3, 4, 5, 2, 1, 0] rfl (P_M_draw_43 hX hM hR FUEL _ _ _ _ _ _ _ h)
      · refine r_bipush (v := (-102 : Int32)) hX d_M_draw_26 rfl ?_
        cases h; exact r_iret hX hR d_M_draw_28
    · refine r_bipush (v := (-101 : Int32)) hX d_M_draw_19 rfl ?_
      cases h; exact r_iret hX hR d_M_draw_21
theorem T_M_draw {l : Launch} {G : AG} (a0 : Nat) (x1 : Int32) (x2 : Int32) (x3 : Int32) (w : AW) {o : Int32 × AW} (h : F_M_draw a0 x1 x2 x3 w = some o) : Mt l G y_M_draw b_M_draw 7 (some (.int)) 4 88 0 0 [vr a0, vi x1, vi x2, vi x3] w (some (vi o.1)) o.2 := mt_of (by decide) (Nat.le_of_ble_eq_true rfl) (fun X hX hR hM hI => P_M_draw_0 hX hM hR _ _ _ _ _ h)
/-! RedSky$Almanac.foretoldFor(I)I -/
theorem d_Al_foretoldFor_0 : decode b_Al_foretoldFor 0 = .ok (.aload_n 0, 1) := by decide +kernel
theorem d_Al_foretoldFor_1 : decode b_Al_foretoldFor 1 = .ok (.getfield 18, 3) := by decide +kernel
theorem d_Al_foretoldFor_4 : decode b_Al_foretoldFor 4 = .ok (.iload_n 1, 1) := by decide +kernel
theorem d_Al_foretoldFor_5 : decode b_Al_foretoldFor 5 = .ok (.invokevirtual 28, 3) := by decide +kernel
theorem d_Al_foretoldFor_8 : decode b_Al_foretoldFor 8 = .ok (.ifCond .ne (5), 3) := by decide +kernel
theorem d_Al_foretoldFor_11 : decode b_Al_foretoldFor 11 = .ok (.iconst (-1), 1) := by decide +kernel
theorem d_Al_foretoldFor_12 : decode b_Al_foretoldFor 12 = .ok (.ireturn, 1) := by decide +kernel
theorem d_Al_foretoldFor_13 : decode b_Al_foretoldFor 13 = .ok (.aload_n 0, 1) := by decide +kernel
theorem d_Al_foretoldFor_14 : decode b_Al_foretoldFor 14 = .ok (.getfield 22, 3) := by decide +kernel
theorem d_Al_foretoldFor_17 : decode b_Al_foretoldFor 17 = .ok (.iload_n 1, 1) := by decide +kernel
theorem d_Al_foretoldFor_18 : decode b_Al_foretoldFor 18 = .ok (.invokevirtual 28, 3) := by decide +kernel
theorem d_Al_foretoldFor_21 : decode b_Al_foretoldFor 21 = .ok (.ifCond .eq (7), 3) := by decide +kernel
theorem d_Al_foretoldFor_24 : decode b_Al_foretoldFor 24 = .ok (.iconst 1, 1) := by decide +kernel
theorem d_Al_foretoldFor_25 : decode b_Al_foretoldFor 25 = .ok (.goto (4), 3) := by decide +kernel
theorem d_Al_foretoldFor_28 : decode b_Al_foretoldFor 28 = .ok (.iconst 0, 1) := by decide +kernel
theorem d_Al_foretoldFor_29 : decode b_Al_foretoldFor 29 = .ok (.ireturn, 1) := by decide +kernel
def F_Al_foretoldFor (w : AW) (a0 : Nat) (x1 : Int32) : Option (Int32) :=
  gd (wk w a0 == 11) <|
  gd (wk w (wr w a0 1) == 8) <|
  (F_Dy_has w (wr w a0 1) x1).bind fun r3 =>
  if r3 = 0 then
    some (-1 : Int32)
  else
    gd (wk w (wr w a0 2) == 8) <|
    (F_Dy_has w (wr w a0 2) x1).bind fun r6 =>
    if r6 = 0 then
      some (0 : Int32)
    else
      some (1 : Int32)
theorem P_Al_foretoldFor_0 {X : AX} {l : Launch} {G : AG} {w : AW} (hX : XOK X b_Al_foretoldFor "RedSky$Almanac" 2) (hM : XM X l G { frames := 1, cells := 0, slots := 0, locals := 21 }) {o : Int32} (hR : XR X (some .int) 0 0 (some (vi o)) w) (a0 : Nat) (x1 : Int32) (h : F_Al_foretoldFor w a0 x1 = some o) : RJ X 2 0 0 0 [(0, vr a0), (1, vi x1)] [] w := by
  unfold F_Al_foretoldFor at h
  refine r_aload_n (i := 0) hX d_Al_foretoldFor_0 0 rfl rfl ?_
  obtain ⟨hk1, h⟩ := gd_e h
  refine r_getR (i := 10) (f := 1) hX ci_10 (by decide) rfl fl_Al_18 hk1 d_Al_foretoldFor_1 ?_
  refine r_iload_n (i := 1) hX d_Al_foretoldFor_4 1 rfl rfl ?_
  obtain ⟨hk2, h⟩ := gd_e h
  obtain ⟨r3, hr4, h⟩ := bd_e h
  refine r_callV1 (As := [_]) hX hM mw_Al_28 (T_Dy_has _ _ _ hr4) (rc_of ci_7 hk2) rfl rfl ⟨Nat.le_refl _, Nat.le_refl _⟩ rfl rfl d_Al_foretoldFor_5 ?_
  refine r_if_ne hX d_Al_foretoldFor_8 rfl h (fun h => ?_) (fun h => ?_)
  · refine r_aload_n (i := 0) hX d_Al_foretoldFor_13 0 rfl rfl ?_
    refine r_getR (i := 10) (f := 2) hX ci_10 (by decide) rfl fl_Al_22 hk1 d_Al_foretoldFor_14 ?_
    refine r_iload_n (i := 1) hX d_Al_foretoldFor_17 1 rfl rfl ?_
    obtain ⟨hk5, h⟩ := gd_e h
    obtain ⟨r6, hr7, h⟩ := bd_e h
    refine r_callV1 (As := [_]) hX hM mw_Al_28 (T_Dy_has _ _ _ hr7) (rc_of ci_7 hk5) rfl rfl ⟨Nat.le_refl _, Nat.le_refl _⟩ rfl rfl d_Al_foretoldFor_18 ?_
    refine r_if_eq hX d_Al_foretoldFor_21 rfl h (fun h => ?_) (fun h => ?_)
    · refine r_iconst (v := (0 : Int32)) hX d_Al_foretoldFor_28 rfl ?_
      cases h; exact r_iret hX hR d_Al_foretoldFor_29
    · refine r_iconst (v := (1 : Int32)) hX d_Al_foretoldFor_24 rfl ?_
      refine r_goto hX d_Al_foretoldFor_25 rfl ?_
      cases h; exact r_iret hX hR d_Al_foretoldFor_29
  · refine r_iconst (v := (-1 : Int32)) hX d_Al_foretoldFor_11 rfl ?_
    cases h; exact r_iret hX hR d_Al_foretoldFor_12
theorem T_Al_foretoldFor {l : Launch} {G : AG} (w : AW) (a0 : Nat) (x1 : Int32) {o : Int32} (h : F_Al_foretoldFor w a0 x1 = some o) : Mt l G y_Al_foretoldFor b_Al_foretoldFor 2 (some (.int)) 1 21 0 0 [vr a0, vi x1] w (some (vi o)) w := mt_of (by decide) (Nat.le_of_ble_eq_true rfl) (fun X hX hR hM hI => P_Al_foretoldFor_0 hX hM hR _ _ h)
