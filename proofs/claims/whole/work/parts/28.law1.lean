theorem d_Lw_law_0 : decode b_Lw_law 0 = .ok (.new 7, 3) := by decide +kernel
theorem d_Lw_law_3 : decode b_Lw_law 3 = .ok (.dup, 1) := by decide +kernel
theorem d_Lw_law_4 : decode b_Lw_law 4 = .ok (.invokespecial 9, 3) := by decide +kernel
theorem d_Lw_law_7 : decode b_Lw_law 7 = .ok (.astore_n 1, 1) := by decide +kernel
theorem d_Lw_law_8 : decode b_Lw_law 8 = .ok (.new 10, 3) := by decide +kernel
theorem d_Lw_law_11 : decode b_Lw_law 11 = .ok (.dup, 1) := by decide +kernel
theorem d_Lw_law_12 : decode b_Lw_law 12 = .ok (.invokespecial 12, 3) := by decide +kernel
theorem d_Lw_law_15 : decode b_Lw_law 15 = .ok (.astore_n 2, 1) := by decide +kernel
theorem d_Lw_law_16 : decode b_Lw_law 16 = .ok (.iconst 0, 1) := by decide +kernel
theorem d_Lw_law_17 : decode b_Lw_law 17 = .ok (.istore_n 3, 1) := by decide +kernel
theorem d_Lw_law_18 : decode b_Lw_law 18 = .ok (.iload_n 3, 1) := by decide +kernel
theorem d_Lw_law_19 : decode b_Lw_law 19 = .ok (.aload_n 0, 1) := by decide +kernel
theorem d_Lw_law_20 : decode b_Lw_law 20 = .ok (.arraylength, 1) := by decide +kernel
theorem d_Lw_law_21 : decode b_Lw_law 21 = .ok (.bipush (6), 2) := by decide +kernel
theorem d_Lw_law_23 : decode b_Lw_law 23 = .ok (.isub, 1) := by decide +kernel
theorem d_Lw_law_24 : decode b_Lw_law 24 = .ok (.if_icmp .gt (1680), 3) := by decide +kernel
theorem d_Lw_law_27 : decode b_Lw_law 27 = .ok (.aload_n 0, 1) := by decide +kernel
theorem d_Lw_law_28 : decode b_Lw_law 28 = .ok (.iload_n 3, 1) := by decide +kernel
theorem d_Lw_law_29 : decode b_Lw_law 29 = .ok (.iaload, 1) := by decide +kernel
theorem d_Lw_law_30 : decode b_Lw_law 30 = .ok (.bipush (63), 2) := by decide +kernel
theorem d_Lw_law_32 : decode b_Lw_law 32 = .ok (.iand, 1) := by decide +kernel
theorem d_Lw_law_33 : decode b_Lw_law 33 = .ok (.tableswitch (1665) 0 38 #[171, 194, 237, 270, 333, 366, 419, 498, 541, 574, 627, 640, 653, 666, 699, 712, 765, 828, 881, 914, 947, 1000, 1033, 1076, 1109, 1132, 1185, 1208, 1231, 1264, 1307, 1360, 1403, 1436, 1489, 1542, 1585, 1628, 1651], 171) := by decide +kernel
theorem d_Lw_law_204 : decode b_Lw_law 204 = .ok (.aload_n 1, 1) := by decide +kernel
theorem d_Lw_law_205 : decode b_Lw_law 205 = .ok (.aload_n 0, 1) := by decide +kernel
theorem d_Lw_law_206 : decode b_Lw_law 206 = .ok (.iload_n 3, 1) := by decide +kernel
theorem d_Lw_law_207 : decode b_Lw_law 207 = .ok (.iconst 1, 1) := by decide +kernel
theorem d_Lw_law_208 : decode b_Lw_law 208 = .ok (.iadd, 1) := by decide +kernel
theorem d_Lw_law_209 : decode b_Lw_law 209 = .ok (.iaload, 1) := by decide +kernel
theorem d_Lw_law_210 : decode b_Lw_law 210 = .ok (.invokevirtual 13, 3) := by decide +kernel
theorem d_Lw_law_213 : decode b_Lw_law 213 = .ok (.aload_n 2, 1) := by decide +kernel
theorem d_Lw_law_214 : decode b_Lw_law 214 = .ok (.aload_n 0, 1) := by decide +kernel
theorem d_Lw_law_215 : decode b_Lw_law 215 = .ok (.iload_n 3, 1) := by decide +kernel
theorem d_Lw_law_216 : decode b_Lw_law 216 = .ok (.iconst 1, 1) := by decide +kernel
theorem d_Lw_law_217 : decode b_Lw_law 217 = .ok (.iadd, 1) := by decide +kernel
theorem d_Lw_law_218 : decode b_Lw_law 218 = .ok (.iaload, 1) := by decide +kernel
theorem d_Lw_law_219 : decode b_Lw_law 219 = .ok (.invokevirtual 17, 3) := by decide +kernel
theorem d_Lw_law_222 : decode b_Lw_law 222 = .ok (.if_icmp .eq (1476), 3) := by decide +kernel
theorem d_Lw_law_225 : decode b_Lw_law 225 = .ok (.iconst 0, 1) := by decide +kernel
theorem d_Lw_law_226 : decode b_Lw_law 226 = .ok (.ireturn, 1) := by decide +kernel
theorem d_Lw_law_227 : decode b_Lw_law 227 = .ok (.aload_n 1, 1) := by decide +kernel
theorem d_Lw_law_228 : decode b_Lw_law 228 = .ok (.aload_n 0, 1) := by decide +kernel
theorem d_Lw_law_229 : decode b_Lw_law 229 = .ok (.iload_n 3, 1) := by decide +kernel
theorem d_Lw_law_230 : decode b_Lw_law 230 = .ok (.iconst 1, 1) := by decide +kernel
theorem d_Lw_law_231 : decode b_Lw_law 231 = .ok (.iadd, 1) := by decide +kernel
theorem d_Lw_law_232 : decode b_Lw_law 232 = .ok (.iaload, 1) := by decide +kernel
theorem d_Lw_law_233 : decode b_Lw_law 233 = .ok (.aload_n 0, 1) := by decide +kernel
theorem d_Lw_law_234 : decode b_Lw_law 234 = .ok (.iload_n 3, 1) := by decide +kernel
theorem d_Lw_law_235 : decode b_Lw_law 235 = .ok (.iconst 2, 1) := by decide +kernel
theorem d_Lw_law_236 : decode b_Lw_law 236 = .ok (.iadd, 1) := by decide +kernel
theorem d_Lw_law_237 : decode b_Lw_law 237 = .ok (.iaload, 1) := by decide +kernel
theorem d_Lw_law_238 : decode b_Lw_law 238 = .ok (.aload_n 0, 1) := by decide +kernel
theorem d_Lw_law_239 : decode b_Lw_law 239 = .ok (.iload_n 3, 1) := by decide +kernel
theorem d_Lw_law_240 : decode b_Lw_law 240 = .ok (.iconst 3, 1) := by decide +kernel
theorem d_Lw_law_241 : decode b_Lw_law 241 = .ok (.iadd, 1) := by decide +kernel
theorem d_Lw_law_242 : decode b_Lw_law 242 = .ok (.iaload, 1) := by decide +kernel
theorem d_Lw_law_243 : decode b_Lw_law 243 = .ok (.invokevirtual 18, 3) := by decide +kernel
theorem d_Lw_law_246 : decode b_Lw_law 246 = .ok (.aload_n 2, 1) := by decide +kernel
theorem d_Lw_law_247 : decode b_Lw_law 247 = .ok (.aload_n 0, 1) := by decide +kernel
theorem d_Lw_law_248 : decode b_Lw_law 248 = .ok (.iload_n 3, 1) := by decide +kernel
theorem d_Lw_law_249 : decode b_Lw_law 249 = .ok (.iconst 1, 1) := by decide +kernel
theorem d_Lw_law_250 : decode b_Lw_law 250 = .ok (.iadd, 1) := by decide +kernel
theorem d_Lw_law_251 : decode b_Lw_law 251 = .ok (.iaload, 1) := by decide +kernel
theorem d_Lw_law_252 : decode b_Lw_law 252 = .ok (.aload_n 0, 1) := by decide +kernel
theorem d_Lw_law_253 : decode b_Lw_law 253 = .ok (.iload_n 3, 1) := by decide +kernel
theorem d_Lw_law_254 : decode b_Lw_law 254 = .ok (.iconst 2, 1) := by decide +kernel
theorem d_Lw_law_255 : decode b_Lw_law 255 = .ok (.iadd, 1) := by decide +kernel
theorem d_Lw_law_256 : decode b_Lw_law 256 = .ok (.iaload, 1) := by decide +kernel
theorem d_Lw_law_257 : decode b_Lw_law 257 = .ok (.aload_n 0, 1) := by decide +kernel
theorem d_Lw_law_258 : decode b_Lw_law 258 = .ok (.iload_n 3, 1) := by decide +kernel
theorem d_Lw_law_259 : decode b_Lw_law 259 = .ok (.iconst 3, 1) := by decide +kernel
theorem d_Lw_law_260 : decode b_Lw_law 260 = .ok (.iadd, 1) := by decide +kernel
theorem d_Lw_law_261 : decode b_Lw_law 261 = .ok (.iaload, 1) := by decide +kernel
theorem d_Lw_law_262 : decode b_Lw_law 262 = .ok (.invokevirtual 22, 3) := by decide +kernel
theorem d_Lw_law_265 : decode b_Lw_law 265 = .ok (.if_icmp .eq (1433), 3) := by decide +kernel
theorem d_Lw_law_268 : decode b_Lw_law 268 = .ok (.iconst 0, 1) := by decide +kernel
theorem d_Lw_law_269 : decode b_Lw_law 269 = .ok (.ireturn, 1) := by decide +kernel
theorem d_Lw_law_270 : decode b_Lw_law 270 = .ok (.aload_n 1, 1) := by decide +kernel
theorem d_Lw_law_271 : decode b_Lw_law 271 = .ok (.aload_n 0, 1) := by decide +kernel
theorem d_Lw_law_272 : decode b_Lw_law 272 = .ok (.iload_n 3, 1) := by decide +kernel
theorem d_Lw_law_273 : decode b_Lw_law 273 = .ok (.iconst 1, 1) := by decide +kernel
theorem d_Lw_law_274 : decode b_Lw_law 274 = .ok (.iadd, 1) := by decide +kernel
theorem d_Lw_law_275 : decode b_Lw_law 275 = .ok (.iaload, 1) := by decide +kernel
theorem d_Lw_law_276 : decode b_Lw_law 276 = .ok (.aload_n 0, 1) := by decide +kernel
theorem d_Lw_law_277 : decode b_Lw_law 277 = .ok (.iload_n 3, 1) := by decide +kernel
theorem d_Lw_law_278 : decode b_Lw_law 278 = .ok (.iconst 2, 1) := by decide +kernel
theorem d_Lw_law_279 : decode b_Lw_law 279 = .ok (.iadd, 1) := by decide +kernel
theorem d_Lw_law_280 : decode b_Lw_law 280 = .ok (.iaload, 1) := by decide +kernel
theorem d_Lw_law_281 : decode b_Lw_law 281 = .ok (.invokevirtual 23, 3) := by decide +kernel
theorem d_Lw_law_284 : decode b_Lw_law 284 = .ok (.aload_n 2, 1) := by decide +kernel
theorem d_Lw_law_285 : decode b_Lw_law 285 = .ok (.aload_n 0, 1) := by decide +kernel
theorem d_Lw_law_286 : decode b_Lw_law 286 = .ok (.iload_n 3, 1) := by decide +kernel
theorem d_Lw_law_287 : decode b_Lw_law 287 = .ok (.iconst 1, 1) := by decide +kernel
theorem d_Lw_law_288 : decode b_Lw_law 288 = .ok (.iadd, 1) := by decide +kernel
theorem d_Lw_law_289 : decode b_Lw_law 289 = .ok (.iaload, 1) := by decide +kernel
theorem d_Lw_law_290 : decode b_Lw_law 290 = .ok (.aload_n 0, 1) := by decide +kernel
theorem d_Lw_law_291 : decode b_Lw_law 291 = .ok (.iload_n 3, 1) := by decide +kernel
theorem d_Lw_law_292 : decode b_Lw_law 292 = .ok (.iconst 2, 1) := by decide +kernel
theorem d_Lw_law_293 : decode b_Lw_law 293 = .ok (.iadd, 1) := by decide +kernel
theorem d_Lw_law_294 : decode b_Lw_law 294 = .ok (.iaload, 1) := by decide +kernel
theorem d_Lw_law_295 : decode b_Lw_law 295 = .ok (.invokevirtual 27, 3) := by decide +kernel
theorem d_Lw_law_298 : decode b_Lw_law 298 = .ok (.if_icmp .eq (1400), 3) := by decide +kernel
theorem d_Lw_law_301 : decode b_Lw_law 301 = .ok (.iconst 0, 1) := by decide +kernel
theorem d_Lw_law_302 : decode b_Lw_law 302 = .ok (.ireturn, 1) := by decide +kernel
theorem d_Lw_law_303 : decode b_Lw_law 303 = .ok (.aload_n 1, 1) := by decide +kernel
theorem d_Lw_law_304 : decode b_Lw_law 304 = .ok (.aload_n 0, 1) := by decide +kernel
theorem d_Lw_law_305 : decode b_Lw_law 305 = .ok (.iload_n 3, 1) := by decide +kernel
theorem d_Lw_law_306 : decode b_Lw_law 306 = .ok (.iconst 1, 1) := by decide +kernel
theorem d_Lw_law_307 : decode b_Lw_law 307 = .ok (.iadd, 1) := by decide +kernel
theorem d_Lw_law_308 : decode b_Lw_law 308 = .ok (.iaload, 1) := by decide +kernel
theorem d_Lw_law_309 : decode b_Lw_law 309 = .ok (.aload_n 0, 1) := by decide +kernel
theorem d_Lw_law_310 : decode b_Lw_law 310 = .ok (.iload_n 3, 1) := by decide +kernel
theorem d_Lw_law_311 : decode b_Lw_law 311 = .ok (.iconst 2, 1) := by decide +kernel
theorem d_Lw_law_312 : decode b_Lw_law 312 = .ok (.iadd, 1) := by decide +kernel
theorem d_Lw_law_313 : decode b_Lw_law 313 = .ok (.iaload, 1) := by decide +kernel
theorem d_Lw_law_314 : decode b_Lw_law 314 = .ok (.aload_n 0, 1) := by decide +kernel
theorem d_Lw_law_315 : decode b_Lw_law 315 = .ok (.iload_n 3, 1) := by decide +kernel
theorem d_Lw_law_316 : decode b_Lw_law 316 = .ok (.iconst 3, 1) := by decide +kernel
theorem d_Lw_law_317 : decode b_Lw_law 317 = .ok (.iadd, 1) := by decide +kernel
theorem d_Lw_law_318 : decode b_Lw_law 318 = .ok (.iaload, 1) := by decide +kernel
theorem d_Lw_law_319 : decode b_Lw_law 319 = .ok (.aload_n 0, 1) := by decide +kernel
theorem d_Lw_law_320 : decode b_Lw_law 320 = .ok (.iload_n 3, 1) := by decide +kernel
theorem d_Lw_law_321 : decode b_Lw_law 321 = .ok (.iconst 4, 1) := by decide +kernel
theorem d_Lw_law_322 : decode b_Lw_law 322 = .ok (.iadd, 1) := by decide +kernel
theorem d_Lw_law_323 : decode b_Lw_law 323 = .ok (.iaload, 1) := by decide +kernel
theorem d_Lw_law_324 : decode b_Lw_law 324 = .ok (.aload_n 0, 1) := by decide +kernel
theorem d_Lw_law_325 : decode b_Lw_law 325 = .ok (.iload_n 3, 1) := by decide +kernel
theorem d_Lw_law_326 : decode b_Lw_law 326 = .ok (.iconst 5, 1) := by decide +kernel
theorem d_Lw_law_327 : decode b_Lw_law 327 = .ok (.iadd, 1) := by decide +kernel
theorem d_Lw_law_328 : decode b_Lw_law 328 = .ok (.iaload, 1) := by decide +kernel
theorem d_Lw_law_329 : decode b_Lw_law 329 = .ok (.invokevirtual 28, 3) := by decide +kernel
theorem d_Lw_law_332 : decode b_Lw_law 332 = .ok (.aload_n 2, 1) := by decide +kernel
theorem d_Lw_law_333 : decode b_Lw_law 333 = .ok (.aload_n 0, 1) := by decide +kernel
theorem d_Lw_law_334 : decode b_Lw_law 334 = .ok (.iload_n 3, 1) := by decide +kernel
theorem d_Lw_law_335 : decode b_Lw_law 335 = .ok (.iconst 1, 1) := by decide +kernel
theorem d_Lw_law_336 : decode b_Lw_law 336 = .ok (.iadd, 1) := by decide +kernel
theorem d_Lw_law_337 : decode b_Lw_law 337 = .ok (.iaload, 1) := by decide +kernel
theorem d_Lw_law_338 : decode b_Lw_law 338 = .ok (.aload_n 0, 1) := by decide +kernel
theorem d_Lw_law_339 : decode b_Lw_law 339 = .ok (.iload_n 3, 1) := by decide +kernel
theorem d_Lw_law_340 : decode b_Lw_law 340 = .ok (.iconst 2, 1) := by decide +kernel
theorem d_Lw_law_341 : decode b_Lw_law 341 = .ok (.iadd, 1) := by decide +kernel
theorem d_Lw_law_342 : decode b_Lw_law 342 = .ok (.iaload, 1) := by decide +kernel
theorem d_Lw_law_343 : decode b_Lw_law 343 = .ok (.aload_n 0, 1) := by decide +kernel
theorem d_Lw_law_344 : decode b_Lw_law 344 = .ok (.iload_n 3, 1) := by decide +kernel
theorem d_Lw_law_345 : decode b_Lw_law 345 = .ok (.iconst 3, 1) := by decide +kernel
theorem d_Lw_law_346 : decode b_Lw_law 346 = .ok (.iadd, 1) := by decide +kernel
theorem d_Lw_law_347 : decode b_Lw_law 347 = .ok (.iaload, 1) := by decide +kernel
theorem d_Lw_law_348 : decode b_Lw_law 348 = .ok (.aload_n 0, 1) := by decide +kernel
theorem d_Lw_law_349 : decode b_Lw_law 349 = .ok (.iload_n 3, 1) := by decide +kernel
theorem d_Lw_law_350 : decode b_Lw_law 350 = .ok (.iconst 4, 1) := by decide +kernel
theorem d_Lw_law_351 : decode b_Lw_law 351 = .ok (.iadd, 1) := by decide +kernel
theorem d_Lw_law_352 : decode b_Lw_law 352 = .ok (.iaload, 1) := by decide +kernel
theorem d_Lw_law_353 : decode b_Lw_law 353 = .ok (.aload_n 0, 1) := by decide +kernel
theorem d_Lw_law_354 : decode b_Lw_law 354 = .ok (.iload_n 3, 1) := by decide +kernel
theorem d_Lw_law_355 : decode b_Lw_law 355 = .ok (.iconst 5, 1) := by decide +kernel
theorem d_Lw_law_356 : decode b_Lw_law 356 = .ok (.iadd, 1) := by decide +kernel
theorem d_Lw_law_357 : decode b_Lw_law 357 = .ok (.iaload, 1) := by decide +kernel
theorem d_Lw_law_358 : decode b_Lw_law 358 = .ok (.invokevirtual 32, 3) := by decide +kernel
theorem d_Lw_law_361 : decode b_Lw_law 361 = .ok (.if_icmp .eq (1337), 3) := by decide +kernel
theorem d_Lw_law_364 : decode b_Lw_law 364 = .ok (.iconst 0, 1) := by decide +kernel
theorem d_Lw_law_365 : decode b_Lw_law 365 = .ok (.ireturn, 1) := by decide +kernel
theorem d_Lw_law_366 : decode b_Lw_law 366 = .ok (.aload_n 1, 1) := by decide +kernel
theorem d_Lw_law_367 : decode b_Lw_law 367 = .ok (.aload_n 0, 1) := by decide +kernel
theorem d_Lw_law_368 : decode b_Lw_law 368 = .ok (.iload_n 3, 1) := by decide +kernel
theorem d_Lw_law_369 : decode b_Lw_law 369 = .ok (.iconst 1, 1) := by decide +kernel
theorem d_Lw_law_370 : decode b_Lw_law 370 = .ok (.iadd, 1) := by decide +kernel
theorem d_Lw_law_371 : decode b_Lw_law 371 = .ok (.iaload, 1) := by decide +kernel
theorem d_Lw_law_372 : decode b_Lw_law 372 = .ok (.aload_n 0, 1) := by decide +kernel
theorem d_Lw_law_373 : decode b_Lw_law 373 = .ok (.iload_n 3, 1) := by decide +kernel
theorem d_Lw_law_374 : decode b_Lw_law 374 = .ok (.iconst 2, 1) := by decide +kernel
theorem d_Lw_law_375 : decode b_Lw_law 375 = .ok (.iadd, 1) := by decide +kernel
theorem d_Lw_law_376 : decode b_Lw_law 376 = .ok (.iaload, 1) := by decide +kernel
theorem d_Lw_law_377 : decode b_Lw_law 377 = .ok (.invokevirtual 33, 3) := by decide +kernel
theorem d_Lw_law_380 : decode b_Lw_law 380 = .ok (.aload_n 2, 1) := by decide +kernel
theorem d_Lw_law_381 : decode b_Lw_law 381 = .ok (.aload_n 0, 1) := by decide +kernel
theorem d_Lw_law_382 : decode b_Lw_law 382 = .ok (.iload_n 3, 1) := by decide +kernel
theorem d_Lw_law_383 : decode b_Lw_law 383 = .ok (.iconst 1, 1) := by decide +kernel
theorem d_Lw_law_384 : decode b_Lw_law 384 = .ok (.iadd, 1) := by decide +kernel
theorem d_Lw_law_385 : decode b_Lw_law 385 = .ok (.iaload, 1) := by decide +kernel
theorem d_Lw_law_386 : decode b_Lw_law 386 = .ok (.aload_n 0, 1) := by decide +kernel
theorem d_Lw_law_387 : decode b_Lw_law 387 = .ok (.iload_n 3, 1) := by decide +kernel
theorem d_Lw_law_388 : decode b_Lw_law 388 = .ok (.iconst 2, 1) := by decide +kernel
theorem d_Lw_law_389 : decode b_Lw_law 389 = .ok (.iadd, 1) := by decide +kernel
theorem d_Lw_law_390 : decode b_Lw_law 390 = .ok (.iaload, 1) := by decide +kernel
theorem d_Lw_law_391 : decode b_Lw_law 391 = .ok (.invokevirtual 36, 3) := by decide +kernel
theorem d_Lw_law_394 : decode b_Lw_law 394 = .ok (.if_icmp .eq (1304), 3) := by decide +kernel
theorem d_Lw_law_397 : decode b_Lw_law 397 = .ok (.iconst 0, 1) := by decide +kernel
theorem d_Lw_law_398 : decode b_Lw_law 398 = .ok (.ireturn, 1) := by decide +kernel
theorem d_Lw_law_399 : decode b_Lw_law 399 = .ok (.aload_n 1, 1) := by decide +kernel
theorem d_Lw_law_400 : decode b_Lw_law 400 = .ok (.aload_n 0, 1) := by decide +kernel
theorem d_Lw_law_401 : decode b_Lw_law 401 = .ok (.iload_n 3, 1) := by decide +kernel
theorem d_Lw_law_402 : decode b_Lw_law 402 = .ok (.iconst 1, 1) := by decide +kernel
theorem d_Lw_law_403 : decode b_Lw_law 403 = .ok (.iadd, 1) := by decide +kernel
theorem d_Lw_law_404 : decode b_Lw_law 404 = .ok (.iaload, 1) := by decide +kernel
theorem d_Lw_law_405 : decode b_Lw_law 405 = .ok (.aload_n 0, 1) := by decide +kernel
theorem d_Lw_law_406 : decode b_Lw_law 406 = .ok (.iload_n 3, 1) := by decide +kernel
theorem d_Lw_law_407 : decode b_Lw_law 407 = .ok (.iconst 2, 1) := by decide +kernel
theorem d_Lw_law_408 : decode b_Lw_law 408 = .ok (.iadd, 1) := by decide +kernel
theorem d_Lw_law_409 : decode b_Lw_law 409 = .ok (.iaload, 1) := by decide +kernel
theorem d_Lw_law_410 : decode b_Lw_law 410 = .ok (.aload_n 0, 1) := by decide +kernel
theorem d_Lw_law_411 : decode b_Lw_law 411 = .ok (.iload_n 3, 1) := by decide +kernel
theorem d_Lw_law_412 : decode b_Lw_law 412 = .ok (.iconst 3, 1) := by decide +kernel
theorem d_Lw_law_413 : decode b_Lw_law 413 = .ok (.iadd, 1) := by decide +kernel
theorem d_Lw_law_414 : decode b_Lw_law 414 = .ok (.iaload, 1) := by decide +kernel
theorem d_Lw_law_415 : decode b_Lw_law 415 = .ok (.aload_n 0, 1) := by decide +kernel
theorem d_Lw_law_416 : decode b_Lw_law 416 = .ok (.iload_n 3, 1) := by decide +kernel
theorem d_Lw_law_417 : decode b_Lw_law 417 = .ok (.iconst 4, 1) := by decide +kernel
theorem d_Lw_law_418 : decode b_Lw_law 418 = .ok (.iadd, 1) := by decide +kernel
theorem d_Lw_law_419 : decode b_Lw_law 419 = .ok (.iaload, 1) := by decide +kernel
theorem d_Lw_law_420 : decode b_Lw_law 420 = .ok (.invokevirtual 37, 3) := by decide +kernel
theorem d_Lw_law_423 : decode b_Lw_law 423 = .ok (.aload_n 2, 1) := by decide +kernel
theorem d_Lw_law_424 : decode b_Lw_law 424 = .ok (.aload_n 0, 1) := by decide +kernel
theorem d_Lw_law_425 : decode b_Lw_law 425 = .ok (.iload_n 3, 1) := by decide +kernel
theorem d_Lw_law_426 : decode b_Lw_law 426 = .ok (.iconst 1, 1) := by decide +kernel
theorem d_Lw_law_427 : decode b_Lw_law 427 = .ok (.iadd, 1) := by decide +kernel
theorem d_Lw_law_428 : decode b_Lw_law 428 = .ok (.iaload, 1) := by decide +kernel
theorem d_Lw_law_429 : decode b_Lw_law 429 = .ok (.aload_n 0, 1) := by decide +kernel
theorem d_Lw_law_430 : decode b_Lw_law 430 = .ok (.iload_n 3, 1) := by decide +kernel
theorem d_Lw_law_431 : decode b_Lw_law 431 = .ok (.iconst 2, 1) := by decide +kernel
theorem d_Lw_law_432 : decode b_Lw_law 432 = .ok (.iadd, 1) := by decide +kernel
theorem d_Lw_law_433 : decode b_Lw_law 433 = .ok (.iaload, 1) := by decide +kernel
theorem d_Lw_law_434 : decode b_Lw_law 434 = .ok (.aload_n 0, 1) := by decide +kernel
theorem d_Lw_law_435 : decode b_Lw_law 435 = .ok (.iload_n 3, 1) := by decide +kernel
theorem d_Lw_law_436 : decode b_Lw_law 436 = .ok (.iconst 3, 1) := by decide +kernel
theorem d_Lw_law_437 : decode b_Lw_law 437 = .ok (.iadd, 1) := by decide +kernel
theorem d_Lw_law_438 : decode b_Lw_law 438 = .ok (.iaload, 1) := by decide +kernel
theorem d_Lw_law_439 : decode b_Lw_law 439 = .ok (.aload_n 0, 1) := by decide +kernel
theorem d_Lw_law_440 : decode b_Lw_law 440 = .ok (.iload_n 3, 1) := by decide +kernel
theorem d_Lw_law_441 : decode b_Lw_law 441 = .ok (.iconst 4, 1) := by decide +kernel
theorem d_Lw_law_442 : decode b_Lw_law 442 = .ok (.iadd, 1) := by decide +kernel
theorem d_Lw_law_443 : decode b_Lw_law 443 = .ok (.iaload, 1) := by decide +kernel
theorem d_Lw_law_444 : decode b_Lw_law 444 = .ok (.invokevirtual 41, 3) := by decide +kernel
theorem d_Lw_law_447 : decode b_Lw_law 447 = .ok (.if_icmp .eq (1251), 3) := by decide +kernel
theorem d_Lw_law_450 : decode b_Lw_law 450 = .ok (.iconst 0, 1) := by decide +kernel
theorem d_Lw_law_451 : decode b_Lw_law 451 = .ok (.ireturn, 1) := by decide +kernel
theorem d_Lw_law_452 : decode b_Lw_law 452 = .ok (.aload_n 1, 1) := by decide +kernel
theorem d_Lw_law_453 : decode b_Lw_law 453 = .ok (.aload_n 0, 1) := by decide +kernel
theorem d_Lw_law_454 : decode b_Lw_law 454 = .ok (.iload_n 3, 1) := by decide +kernel
theorem d_Lw_law_455 : decode b_Lw_law 455 = .ok (.iconst 1, 1) := by decide +kernel
theorem d_Lw_law_456 : decode b_Lw_law 456 = .ok (.iadd, 1) := by decide +kernel
theorem d_Lw_law_457 : decode b_Lw_law 457 = .ok (.iaload, 1) := by decide +kernel
theorem d_Lw_law_458 : decode b_Lw_law 458 = .ok (.aload_n 0, 1) := by decide +kernel
theorem d_Lw_law_459 : decode b_Lw_law 459 = .ok (.iload_n 3, 1) := by decide +kernel
theorem d_Lw_law_460 : decode b_Lw_law 460 = .ok (.iconst 2, 1) := by decide +kernel
theorem d_Lw_law_461 : decode b_Lw_law 461 = .ok (.iadd, 1) := by decide +kernel
theorem d_Lw_law_462 : decode b_Lw_law 462 = .ok (.iaload, 1) := by decide +kernel
theorem d_Lw_law_463 : decode b_Lw_law 463 = .ok (.aload_n 0, 1) := by decide +kernel
theorem d_Lw_law_464 : decode b_Lw_law 464 = .ok (.iload_n 3, 1) := by decide +kernel
theorem d_Lw_law_465 : decode b_Lw_law 465 = .ok (.iconst 3, 1) := by decide +kernel
theorem d_Lw_law_466 : decode b_Lw_law 466 = .ok (.iadd, 1) := by decide +kernel
theorem d_Lw_law_467 : decode b_Lw_law 467 = .ok (.iaload, 1) := by decide +kernel
theorem d_Lw_law_468 : decode b_Lw_law 468 = .ok (.aload_n 0, 1) := by decide +kernel
theorem d_Lw_law_469 : decode b_Lw_law 469 = .ok (.iload_n 3, 1) := by decide +kernel
theorem d_Lw_law_470 : decode b_Lw_law 470 = .ok (.iconst 4, 1) := by decide +kernel
theorem d_Lw_law_471 : decode b_Lw_law 471 = .ok (.iadd, 1) := by decide +kernel
theorem d_Lw_law_472 : decode b_Lw_law 472 = .ok (.iaload, 1) := by decide +kernel
theorem d_Lw_law_473 : decode b_Lw_law 473 = .ok (.aload_n 0, 1) := by decide +kernel
theorem d_Lw_law_474 : decode b_Lw_law 474 = .ok (.iload_n 3, 1) := by decide +kernel
theorem d_Lw_law_475 : decode b_Lw_law 475 = .ok (.iconst 5, 1) := by decide +kernel
theorem d_Lw_law_476 : decode b_Lw_law 476 = .ok (.iadd, 1) := by decide +kernel
theorem d_Lw_law_477 : decode b_Lw_law 477 = .ok (.iaload, 1) := by decide +kernel
theorem d_Lw_law_478 : decode b_Lw_law 478 = .ok (.ifCond .eq (7), 3) := by decide +kernel
theorem d_Lw_law_481 : decode b_Lw_law 481 = .ok (.iconst 1, 1) := by decide +kernel
theorem d_Lw_law_482 : decode b_Lw_law 482 = .ok (.goto (4), 3) := by decide +kernel
theorem d_Lw_law_485 : decode b_Lw_law 485 = .ok (.iconst 0, 1) := by decide +kernel
theorem d_Lw_law_486 : decode b_Lw_law 486 = .ok (.invokevirtual 42, 3) := by decide +kernel
theorem d_Lw_law_489 : decode b_Lw_law 489 = .ok (.aload_n 2, 1) := by decide +kernel
theorem d_Lw_law_490 : decode b_Lw_law 490 = .ok (.aload_n 0, 1) := by decide +kernel
theorem d_Lw_law_491 : decode b_Lw_law 491 = .ok (.iload_n 3, 1) := by decide +kernel
theorem d_Lw_law_492 : decode b_Lw_law 492 = .ok (.iconst 1, 1) := by decide +kernel
theorem d_Lw_law_493 : decode b_Lw_law 493 = .ok (.iadd, 1) := by decide +kernel
theorem d_Lw_law_494 : decode b_Lw_law 494 = .ok (.iaload, 1) := by decide +kernel
theorem d_Lw_law_495 : decode b_Lw_law 495 = .ok (.aload_n 0, 1) := by decide +kernel
theorem d_Lw_law_496 : decode b_Lw_law 496 = .ok (.iload_n 3, 1) := by decide +kernel
theorem d_Lw_law_497 : decode b_Lw_law 497 = .ok (.iconst 2, 1) := by decide +kernel
theorem d_Lw_law_498 : decode b_Lw_law 498 = .ok (.iadd, 1) := by decide +kernel
theorem d_Lw_law_499 : decode b_Lw_law 499 = .ok (.iaload, 1) := by decide +kernel
theorem d_Lw_law_500 : decode b_Lw_law 500 = .ok (.aload_n 0, 1) := by decide +kernel
theorem d_Lw_law_501 : decode b_Lw_law 501 = .ok (.iload_n 3, 1) := by decide +kernel
theorem d_Lw_law_502 : decode b_Lw_law 502 = .ok (.iconst 3, 1) := by decide +kernel
theorem d_Lw_law_503 : decode b_Lw_law 503 = .ok (.iadd, 1) := by decide +kernel
theorem d_Lw_law_504 : decode b_Lw_law 504 = .ok (.iaload, 1) := by decide +kernel
theorem d_Lw_law_505 : decode b_Lw_law 505 = .ok (.aload_n 0, 1) := by decide +kernel
theorem d_Lw_law_506 : decode b_Lw_law 506 = .ok (.iload_n 3, 1) := by decide +kernel
theorem d_Lw_law_507 : decode b_Lw_law 507 = .ok (.iconst 4, 1) := by decide +kernel
theorem d_Lw_law_508 : decode b_Lw_law 508 = .ok (.iadd, 1) := by decide +kernel
theorem d_Lw_law_509 : decode b_Lw_law 509 = .ok (.iaload, 1) := by decide +kernel
theorem d_Lw_law_510 : decode b_Lw_law 510 = .ok (.aload_n 0, 1) := by decide +kernel
theorem d_Lw_law_511 : decode b_Lw_law 511 = .ok (.iload_n 3, 1) := by decide +kernel
theorem d_Lw_law_512 : decode b_Lw_law 512 = .ok (.iconst 5, 1) := by decide +kernel
theorem d_Lw_law_513 : decode b_Lw_law 513 = .ok (.iadd, 1) := by decide +kernel
theorem d_Lw_law_514 : decode b_Lw_law 514 = .ok (.iaload, 1) := by decide +kernel
theorem d_Lw_law_515 : decode b_Lw_law 515 = .ok (.ifCond .eq (7), 3) := by decide +kernel
theorem d_Lw_law_518 : decode b_Lw_law 518 = .ok (.iconst 1, 1) := by decide +kernel
theorem d_Lw_law_519 : decode b_Lw_law 519 = .ok (.goto (4), 3) := by decide +kernel
theorem d_Lw_law_522 : decode b_Lw_law 522 = .ok (.iconst 0, 1) := by decide +kernel
theorem d_Lw_law_523 : decode b_Lw_law 523 = .ok (.invokevirtual 46, 3) := by decide +kernel
theorem d_Lw_law_526 : decode b_Lw_law 526 = .ok (.if_icmp .eq (1172), 3) := by decide +kernel
theorem d_Lw_law_529 : decode b_Lw_law 529 = .ok (.iconst 0, 1) := by decide +kernel
theorem d_Lw_law_530 : decode b_Lw_law 530 = .ok (.ireturn, 1) := by decide +kernel
theorem d_Lw_law_531 : decode b_Lw_law 531 = .ok (.aload_n 1, 1) := by decide +kernel
theorem d_Lw_law_532 : decode b_Lw_law 532 = .ok (.aload_n 0, 1) := by decide +kernel
theorem d_Lw_law_533 : decode b_Lw_law 533 = .ok (.iload_n 3, 1) := by decide +kernel
theorem d_Lw_law_534 : decode b_Lw_law 534 = .ok (.iconst 1, 1) := by decide +kernel
theorem d_Lw_law_535 : decode b_Lw_law 535 = .ok (.iadd, 1) := by decide +kernel
theorem d_Lw_law_536 : decode b_Lw_law 536 = .ok (.iaload, 1) := by decide +kernel
theorem d_Lw_law_537 : decode b_Lw_law 537 = .ok (.aload_n 0, 1) := by decide +kernel
theorem d_Lw_law_538 : decode b_Lw_law 538 = .ok (.iload_n 3, 1) := by decide +kernel
theorem d_Lw_law_539 : decode b_Lw_law 539 = .ok (.iconst 2, 1) := by decide +kernel
theorem d_Lw_law_540 : decode b_Lw_law 540 = .ok (.iadd, 1) := by decide +kernel
theorem d_Lw_law_541 : decode b_Lw_law 541 = .ok (.iaload, 1) := by decide +kernel
theorem d_Lw_law_542 : decode b_Lw_law 542 = .ok (.aload_n 0, 1) := by decide +kernel
theorem d_Lw_law_543 : decode b_Lw_law 543 = .ok (.iload_n 3, 1) := by decide +kernel
theorem d_Lw_law_544 : decode b_Lw_law 544 = .ok (.iconst 3, 1) := by decide +kernel
theorem d_Lw_law_545 : decode b_Lw_law 545 = .ok (.iadd, 1) := by decide +kernel
theorem d_Lw_law_546 : decode b_Lw_law 546 = .ok (.iaload, 1) := by decide +kernel
theorem d_Lw_law_547 : decode b_Lw_law 547 = .ok (.invokevirtual 47, 3) := by decide +kernel
theorem d_Lw_law_550 : decode b_Lw_law 550 = .ok (.aload_n 2, 1) := by decide +kernel
theorem d_Lw_law_551 : decode b_Lw_law 551 = .ok (.aload_n 0, 1) := by decide +kernel
theorem d_Lw_law_552 : decode b_Lw_law 552 = .ok (.iload_n 3, 1) := by decide +kernel
theorem d_Lw_law_553 : decode b_Lw_law 553 = .ok (.iconst 1, 1) := by decide +kernel
theorem d_Lw_law_554 : decode b_Lw_law 554 = .ok (.iadd, 1) := by decide +kernel
theorem d_Lw_law_555 : decode b_Lw_law 555 = .ok (.iaload, 1) := by decide +kernel
theorem d_Lw_law_556 : decode b_Lw_law 556 = .ok (.aload_n 0, 1) := by decide +kernel
theorem d_Lw_law_557 : decode b_Lw_law 557 = .ok (.iload_n 3, 1) := by decide +kernel
theorem d_Lw_law_558 : decode b_Lw_law 558 = .ok (.iconst 2, 1) := by decide +kernel
theorem d_Lw_law_559 : decode b_Lw_law 559 = .ok (.iadd, 1) := by decide +kernel
theorem d_Lw_law_560 : decode b_Lw_law 560 = .ok (.iaload, 1) := by decide +kernel
theorem d_Lw_law_561 : decode b_Lw_law 561 = .ok (.aload_n 0, 1) := by decide +kernel
theorem d_Lw_law_562 : decode b_Lw_law 562 = .ok (.iload_n 3, 1) := by decide +kernel
theorem d_Lw_law_563 : decode b_Lw_law 563 = .ok (.iconst 3, 1) := by decide +kernel
theorem d_Lw_law_564 : decode b_Lw_law 564 = .ok (.iadd, 1) := by decide +kernel
theorem d_Lw_law_565 : decode b_Lw_law 565 = .ok (.iaload, 1) := by decide +kernel
theorem d_Lw_law_566 : decode b_Lw_law 566 = .ok (.invokevirtual 50, 3) := by decide +kernel
theorem d_Lw_law_569 : decode b_Lw_law 569 = .ok (.if_icmp .eq (1129), 3) := by decide +kernel
theorem d_Lw_law_572 : decode b_Lw_law 572 = .ok (.iconst 0, 1) := by decide +kernel
theorem d_Lw_law_573 : decode b_Lw_law 573 = .ok (.ireturn, 1) := by decide +kernel
theorem d_Lw_law_574 : decode b_Lw_law 574 = .ok (.aload_n 1, 1) := by decide +kernel
theorem d_Lw_law_575 : decode b_Lw_law 575 = .ok (.aload_n 0, 1) := by decide +kernel
theorem d_Lw_law_576 : decode b_Lw_law 576 = .ok (.iload_n 3, 1) := by decide +kernel
theorem d_Lw_law_577 : decode b_Lw_law 577 = .ok (.iconst 1, 1) := by decide +kernel
theorem d_Lw_law_578 : decode b_Lw_law 578 = .ok (.iadd, 1) := by decide +kernel
theorem d_Lw_law_579 : decode b_Lw_law 579 = .ok (.iaload, 1) := by decide +kernel
theorem d_Lw_law_580 : decode b_Lw_law 580 = .ok (.aload_n 0, 1) := by decide +kernel
theorem d_Lw_law_581 : decode b_Lw_law 581 = .ok (.iload_n 3, 1) := by decide +kernel
theorem d_Lw_law_582 : decode b_Lw_law 582 = .ok (.iconst 2, 1) := by decide +kernel
theorem d_Lw_law_583 : decode b_Lw_law 583 = .ok (.iadd, 1) := by decide +kernel
theorem d_Lw_law_584 : decode b_Lw_law 584 = .ok (.iaload, 1) := by decide +kernel
theorem d_Lw_law_585 : decode b_Lw_law 585 = .ok (.invokevirtual 51, 3) := by decide +kernel
theorem d_Lw_law_588 : decode b_Lw_law 588 = .ok (.aload_n 2, 1) := by decide +kernel
theorem d_Lw_law_589 : decode b_Lw_law 589 = .ok (.aload_n 0, 1) := by decide +kernel
theorem d_Lw_law_590 : decode b_Lw_law 590 = .ok (.iload_n 3, 1) := by decide +kernel
theorem d_Lw_law_591 : decode b_Lw_law 591 = .ok (.iconst 1, 1) := by decide +kernel
theorem d_Lw_law_592 : decode b_Lw_law 592 = .ok (.iadd, 1) := by decide +kernel
theorem d_Lw_law_593 : decode b_Lw_law 593 = .ok (.iaload, 1) := by decide +kernel
theorem d_Lw_law_594 : decode b_Lw_law 594 = .ok (.aload_n 0, 1) := by decide +kernel
theorem d_Lw_law_595 : decode b_Lw_law 595 = .ok (.iload_n 3, 1) := by decide +kernel
theorem d_Lw_law_596 : decode b_Lw_law 596 = .ok (.iconst 2, 1) := by decide +kernel
theorem d_Lw_law_597 : decode b_Lw_law 597 = .ok (.iadd, 1) := by decide +kernel
theorem d_Lw_law_598 : decode b_Lw_law 598 = .ok (.iaload, 1) := by decide +kernel
theorem d_Lw_law_599 : decode b_Lw_law 599 = .ok (.invokevirtual 54, 3) := by decide +kernel
theorem d_Lw_law_602 : decode b_Lw_law 602 = .ok (.if_icmp .eq (1096), 3) := by decide +kernel
theorem d_Lw_law_605 : decode b_Lw_law 605 = .ok (.iconst 0, 1) := by decide +kernel
theorem d_Lw_law_606 : decode b_Lw_law 606 = .ok (.ireturn, 1) := by decide +kernel
theorem d_Lw_law_607 : decode b_Lw_law 607 = .ok (.aload_n 1, 1) := by decide +kernel
theorem d_Lw_law_608 : decode b_Lw_law 608 = .ok (.aload_n 0, 1) := by decide +kernel
theorem d_Lw_law_609 : decode b_Lw_law 609 = .ok (.iload_n 3, 1) := by decide +kernel
theorem d_Lw_law_610 : decode b_Lw_law 610 = .ok (.iconst 1, 1) := by decide +kernel
theorem d_Lw_law_611 : decode b_Lw_law 611 = .ok (.iadd, 1) := by decide +kernel
theorem d_Lw_law_612 : decode b_Lw_law 612 = .ok (.iaload, 1) := by decide +kernel
theorem d_Lw_law_613 : decode b_Lw_law 613 = .ok (.i2l, 1) := by decide +kernel
theorem d_Lw_law_614 : decode b_Lw_law 614 = .ok (.bipush (32), 2) := by decide +kernel
theorem d_Lw_law_616 : decode b_Lw_law 616 = .ok (.lshl, 1) := by decide +kernel
theorem d_Lw_law_617 : decode b_Lw_law 617 = .ok (.aload_n 0, 1) := by decide +kernel
theorem d_Lw_law_618 : decode b_Lw_law 618 = .ok (.iload_n 3, 1) := by decide +kernel
theorem d_Lw_law_619 : decode b_Lw_law 619 = .ok (.iconst 2, 1) := by decide +kernel
theorem d_Lw_law_620 : decode b_Lw_law 620 = .ok (.iadd, 1) := by decide +kernel
theorem d_Lw_law_621 : decode b_Lw_law 621 = .ok (.iaload, 1) := by decide +kernel
theorem d_Lw_law_622 : decode b_Lw_law 622 = .ok (.i2l, 1) := by decide +kernel
theorem d_Lw_law_623 : decode b_Lw_law 623 = .ok (.ldc2_w 55, 3) := by decide +kernel
theorem d_Lw_law_626 : decode b_Lw_law 626 = .ok (.land, 1) := by decide +kernel
theorem d_Lw_law_627 : decode b_Lw_law 627 = .ok (.lor, 1) := by decide +kernel
theorem d_Lw_law_628 : decode b_Lw_law 628 = .ok (.invokevirtual 57, 3) := by decide +kernel
theorem d_Lw_law_631 : decode b_Lw_law 631 = .ok (.aload_n 2, 1) := by decide +kernel
theorem d_Lw_law_632 : decode b_Lw_law 632 = .ok (.aload_n 0, 1) := by decide +kernel
theorem d_Lw_law_633 : decode b_Lw_law 633 = .ok (.iload_n 3, 1) := by decide +kernel
theorem d_Lw_law_634 : decode b_Lw_law 634 = .ok (.iconst 1, 1) := by decide +kernel
theorem d_Lw_law_635 : decode b_Lw_law 635 = .ok (.iadd, 1) := by decide +kernel
theorem d_Lw_law_636 : decode b_Lw_law 636 = .ok (.iaload, 1) := by decide +kernel
theorem d_Lw_law_637 : decode b_Lw_law 637 = .ok (.i2l, 1) := by decide +kernel
theorem d_Lw_law_638 : decode b_Lw_law 638 = .ok (.bipush (32), 2) := by decide +kernel
theorem d_Lw_law_640 : decode b_Lw_law 640 = .ok (.lshl, 1) := by decide +kernel
theorem d_Lw_law_641 : decode b_Lw_law 641 = .ok (.aload_n 0, 1) := by decide +kernel
theorem d_Lw_law_642 : decode b_Lw_law 642 = .ok (.iload_n 3, 1) := by decide +kernel
theorem d_Lw_law_643 : decode b_Lw_law 643 = .ok (.iconst 2, 1) := by decide +kernel
theorem d_Lw_law_644 : decode b_Lw_law 644 = .ok (.iadd, 1) := by decide +kernel
theorem d_Lw_law_645 : decode b_Lw_law 645 = .ok (.iaload, 1) := by decide +kernel
theorem d_Lw_law_646 : decode b_Lw_law 646 = .ok (.i2l, 1) := by decide +kernel
theorem d_Lw_law_647 : decode b_Lw_law 647 = .ok (.ldc2_w 55, 3) := by decide +kernel
theorem d_Lw_law_650 : decode b_Lw_law 650 = .ok (.land, 1) := by decide +kernel
theorem d_Lw_law_651 : decode b_Lw_law 651 = .ok (.lor, 1) := by decide +kernel
theorem d_Lw_law_652 : decode b_Lw_law 652 = .ok (.invokevirtual 61, 3) := by decide +kernel
theorem d_Lw_law_655 : decode b_Lw_law 655 = .ok (.if_icmp .eq (1043), 3) := by decide +kernel
theorem d_Lw_law_658 : decode b_Lw_law 658 = .ok (.iconst 0, 1) := by decide +kernel
theorem d_Lw_law_659 : decode b_Lw_law 659 = .ok (.ireturn, 1) := by decide +kernel
theorem d_Lw_law_660 : decode b_Lw_law 660 = .ok (.aload_n 1, 1) := by decide +kernel
theorem d_Lw_law_661 : decode b_Lw_law 661 = .ok (.invokevirtual 62, 3) := by decide +kernel
theorem d_Lw_law_664 : decode b_Lw_law 664 = .ok (.aload_n 2, 1) := by decide +kernel
theorem d_Lw_law_665 : decode b_Lw_law 665 = .ok (.invokevirtual 66, 3) := by decide +kernel
theorem d_Lw_law_668 : decode b_Lw_law 668 = .ok (.if_icmp .eq (1030), 3) := by decide +kernel
theorem d_Lw_law_671 : decode b_Lw_law 671 = .ok (.iconst 0, 1) := by decide +kernel
theorem d_Lw_law_672 : decode b_Lw_law 672 = .ok (.ireturn, 1) := by decide +kernel
theorem d_Lw_law_673 : decode b_Lw_law 673 = .ok (.aload_n 1, 1) := by decide +kernel
theorem d_Lw_law_674 : decode b_Lw_law 674 = .ok (.invokevirtual 67, 3) := by decide +kernel
theorem d_Lw_law_677 : decode b_Lw_law 677 = .ok (.aload_n 2, 1) := by decide +kernel
theorem d_Lw_law_678 : decode b_Lw_law 678 = .ok (.invokevirtual 70, 3) := by decide +kernel
theorem d_Lw_law_681 : decode b_Lw_law 681 = .ok (.if_icmp .eq (1017), 3) := by decide +kernel
theorem d_Lw_law_684 : decode b_Lw_law 684 = .ok (.iconst 0, 1) := by decide +kernel
theorem d_Lw_law_685 : decode b_Lw_law 685 = .ok (.ireturn, 1) := by decide +kernel
theorem d_Lw_law_686 : decode b_Lw_law 686 = .ok (.aload_n 1, 1) := by decide +kernel
theorem d_Lw_law_687 : decode b_Lw_law 687 = .ok (.invokevirtual 71, 3) := by decide +kernel
theorem d_Lw_law_690 : decode b_Lw_law 690 = .ok (.aload_n 2, 1) := by decide +kernel
theorem d_Lw_law_691 : decode b_Lw_law 691 = .ok (.invokevirtual 74, 3) := by decide +kernel
theorem d_Lw_law_694 : decode b_Lw_law 694 = .ok (.if_icmp .eq (1004), 3) := by decide +kernel
theorem d_Lw_law_697 : decode b_Lw_law 697 = .ok (.iconst 0, 1) := by decide +kernel
theorem d_Lw_law_698 : decode b_Lw_law 698 = .ok (.ireturn, 1) := by decide +kernel
theorem d_Lw_law_699 : decode b_Lw_law 699 = .ok (.aload_n 1, 1) := by decide +kernel
theorem d_Lw_law_700 : decode b_Lw_law 700 = .ok (.aload_n 0, 1) := by decide +kernel
theorem d_Lw_law_701 : decode b_Lw_law 701 = .ok (.iload_n 3, 1) := by decide +kernel
theorem d_Lw_law_702 : decode b_Lw_law 702 = .ok (.iconst 1, 1) := by decide +kernel
theorem d_Lw_law_703 : decode b_Lw_law 703 = .ok (.iadd, 1) := by decide +kernel
theorem d_Lw_law_704 : decode b_Lw_law 704 = .ok (.iaload, 1) := by decide +kernel
theorem d_Lw_law_705 : decode b_Lw_law 705 = .ok (.aload_n 0, 1) := by decide +kernel
theorem d_Lw_law_706 : decode b_Lw_law 706 = .ok (.iload_n 3, 1) := by decide +kernel
theorem d_Lw_law_707 : decode b_Lw_law 707 = .ok (.iconst 2, 1) := by decide +kernel
theorem d_Lw_law_708 : decode b_Lw_law 708 = .ok (.iadd, 1) := by decide +kernel
theorem d_Lw_law_709 : decode b_Lw_law 709 = .ok (.iaload, 1) := by decide +kernel
theorem d_Lw_law_710 : decode b_Lw_law 710 = .ok (.invokevirtual 75, 3) := by decide +kernel
theorem d_Lw_law_713 : decode b_Lw_law 713 = .ok (.aload_n 2, 1) := by decide +kernel
theorem d_Lw_law_714 : decode b_Lw_law 714 = .ok (.aload_n 0, 1) := by decide +kernel
theorem d_Lw_law_715 : decode b_Lw_law 715 = .ok (.iload_n 3, 1) := by decide +kernel
theorem d_Lw_law_716 : decode b_Lw_law 716 = .ok (.iconst 1, 1) := by decide +kernel
theorem d_Lw_law_717 : decode b_Lw_law 717 = .ok (.iadd, 1) := by decide +kernel
theorem d_Lw_law_718 : decode b_Lw_law 718 = .ok (.iaload, 1) := by decide +kernel
theorem d_Lw_law_719 : decode b_Lw_law 719 = .ok (.aload_n 0, 1) := by decide +kernel
theorem d_Lw_law_720 : decode b_Lw_law 720 = .ok (.iload_n 3, 1) := by decide +kernel
theorem d_Lw_law_721 : decode b_Lw_law 721 = .ok (.iconst 2, 1) := by decide +kernel
theorem d_Lw_law_722 : decode b_Lw_law 722 = .ok (.iadd, 1) := by decide +kernel
theorem d_Lw_law_723 : decode b_Lw_law 723 = .ok (.iaload, 1) := by decide +kernel
theorem d_Lw_law_724 : decode b_Lw_law 724 = .ok (.invokevirtual 78, 3) := by decide +kernel
theorem d_Lw_law_727 : decode b_Lw_law 727 = .ok (.if_icmp .eq (971), 3) := by decide +kernel
theorem d_Lw_law_730 : decode b_Lw_law 730 = .ok (.iconst 0, 1) := by decide +kernel
theorem d_Lw_law_731 : decode b_Lw_law 731 = .ok (.ireturn, 1) := by decide +kernel
theorem d_Lw_law_732 : decode b_Lw_law 732 = .ok (.aload_n 1, 1) := by decide +kernel
theorem d_Lw_law_733 : decode b_Lw_law 733 = .ok (.invokevirtual 79, 3) := by decide +kernel
theorem d_Lw_law_736 : decode b_Lw_law 736 = .ok (.aload_n 2, 1) := by decide +kernel
theorem d_Lw_law_737 : decode b_Lw_law 737 = .ok (.invokevirtual 82, 3) := by decide +kernel
theorem d_Lw_law_740 : decode b_Lw_law 740 = .ok (.if_icmp .eq (958), 3) := by decide +kernel
theorem d_Lw_law_743 : decode b_Lw_law 743 = .ok (.iconst 0, 1) := by decide +kernel
theorem d_Lw_law_744 : decode b_Lw_law 744 = .ok (.ireturn, 1) := by decide +kernel
theorem d_Lw_law_745 : decode b_Lw_law 745 = .ok (.aload_n 1, 1) := by decide +kernel
theorem d_Lw_law_746 : decode b_Lw_law 746 = .ok (.aload_n 0, 1) := by decide +kernel
theorem d_Lw_law_747 : decode b_Lw_law 747 = .ok (.iload_n 3, 1) := by decide +kernel
theorem d_Lw_law_748 : decode b_Lw_law 748 = .ok (.iconst 1, 1) := by decide +kernel
theorem d_Lw_law_749 : decode b_Lw_law 749 = .ok (.iadd, 1) := by decide +kernel
theorem d_Lw_law_750 : decode b_Lw_law 750 = .ok (.iaload, 1) := by decide +kernel
theorem d_Lw_law_751 : decode b_Lw_law 751 = .ok (.aload_n 0, 1) := by decide +kernel
theorem d_Lw_law_752 : decode b_Lw_law 752 = .ok (.iload_n 3, 1) := by decide +kernel
theorem d_Lw_law_753 : decode b_Lw_law 753 = .ok (.iconst 2, 1) := by decide +kernel
theorem d_Lw_law_754 : decode b_Lw_law 754 = .ok (.iadd, 1) := by decide +kernel
theorem d_Lw_law_755 : decode b_Lw_law 755 = .ok (.iaload, 1) := by decide +kernel
theorem d_Lw_law_756 : decode b_Lw_law 756 = .ok (.aload_n 0, 1) := by decide +kernel
theorem d_Lw_law_757 : decode b_Lw_law 757 = .ok (.iload_n 3, 1) := by decide +kernel
theorem d_Lw_law_758 : decode b_Lw_law 758 = .ok (.iconst 3, 1) := by decide +kernel
theorem d_Lw_law_759 : decode b_Lw_law 759 = .ok (.iadd, 1) := by decide +kernel
theorem d_Lw_law_760 : decode b_Lw_law 760 = .ok (.iaload, 1) := by decide +kernel
theorem d_Lw_law_761 : decode b_Lw_law 761 = .ok (.aload_n 0, 1) := by decide +kernel
theorem d_Lw_law_762 : decode b_Lw_law 762 = .ok (.iload_n 3, 1) := by decide +kernel
theorem d_Lw_law_763 : decode b_Lw_law 763 = .ok (.iconst 4, 1) := by decide +kernel
theorem d_Lw_law_764 : decode b_Lw_law 764 = .ok (.iadd, 1) := by decide +kernel
theorem d_Lw_law_765 : decode b_Lw_law 765 = .ok (.iaload, 1) := by decide +kernel
theorem d_Lw_law_766 : decode b_Lw_law 766 = .ok (.invokevirtual 83, 3) := by decide +kernel
theorem d_Lw_law_769 : decode b_Lw_law 769 = .ok (.aload_n 2, 1) := by decide +kernel
theorem d_Lw_law_770 : decode b_Lw_law 770 = .ok (.aload_n 0, 1) := by decide +kernel
theorem d_Lw_law_771 : decode b_Lw_law 771 = .ok (.iload_n 3, 1) := by decide +kernel
theorem d_Lw_law_772 : decode b_Lw_law 772 = .ok (.iconst 1, 1) := by decide +kernel
theorem d_Lw_law_773 : decode b_Lw_law 773 = .ok (.iadd, 1) := by decide +kernel
theorem d_Lw_law_774 : decode b_Lw_law 774 = .ok (.iaload, 1) := by decide +kernel
theorem d_Lw_law_775 : decode b_Lw_law 775 = .ok (.aload_n 0, 1) := by decide +kernel
theorem d_Lw_law_776 : decode b_Lw_law 776 = .ok (.iload_n 3, 1) := by decide +kernel
theorem d_Lw_law_777 : decode b_Lw_law 777 = .ok (.iconst 2, 1) := by decide +kernel
theorem d_Lw_law_778 : decode b_Lw_law 778 = .ok (.iadd, 1) := by decide +kernel
theorem d_Lw_law_779 : decode b_Lw_law 779 = .ok (.iaload, 1) := by decide +kernel
theorem d_Lw_law_780 : decode b_Lw_law 780 = .ok (.aload_n 0, 1) := by decide +kernel
theorem d_Lw_law_781 : decode b_Lw_law 781 = .ok (.iload_n 3, 1) := by decide +kernel
theorem d_Lw_law_782 : decode b_Lw_law 782 = .ok (.iconst 3, 1) := by decide +kernel
theorem d_Lw_law_783 : decode b_Lw_law 783 = .ok (.iadd, 1) := by decide +kernel
theorem d_Lw_law_784 : decode b_Lw_law 784 = .ok (.iaload, 1) := by decide +kernel
theorem d_Lw_law_785 : decode b_Lw_law 785 = .ok (.aload_n 0, 1) := by decide +kernel
theorem d_Lw_law_786 : decode b_Lw_law 786 = .ok (.iload_n 3, 1) := by decide +kernel
theorem d_Lw_law_787 : decode b_Lw_law 787 = .ok (.iconst 4, 1) := by decide +kernel
theorem d_Lw_law_788 : decode b_Lw_law 788 = .ok (.iadd, 1) := by decide +kernel
theorem d_Lw_law_789 : decode b_Lw_law 789 = .ok (.iaload, 1) := by decide +kernel
theorem d_Lw_law_790 : decode b_Lw_law 790 = .ok (.invokevirtual 86, 3) := by decide +kernel
theorem d_Lw_law_793 : decode b_Lw_law 793 = .ok (.if_icmp .eq (905), 3) := by decide +kernel
theorem d_Lw_law_796 : decode b_Lw_law 796 = .ok (.iconst 0, 1) := by decide +kernel
theorem d_Lw_law_797 : decode b_Lw_law 797 = .ok (.ireturn, 1) := by decide +kernel
theorem d_Lw_law_798 : decode b_Lw_law 798 = .ok (.aload_n 1, 1) := by decide +kernel
theorem d_Lw_law_799 : decode b_Lw_law 799 = .ok (.aload_n 0, 1) := by decide +kernel
theorem d_Lw_law_800 : decode b_Lw_law 800 = .ok (.iload_n 3, 1) := by decide +kernel
theorem d_Lw_law_801 : decode b_Lw_law 801 = .ok (.iconst 1, 1) := by decide +kernel
theorem d_Lw_law_802 : decode b_Lw_law 802 = .ok (.iadd, 1) := by decide +kernel
theorem d_Lw_law_803 : decode b_Lw_law 803 = .ok (.iaload, 1) := by decide +kernel
theorem d_Lw_law_804 : decode b_Lw_law 804 = .ok (.aload_n 0, 1) := by decide +kernel
theorem d_Lw_law_805 : decode b_Lw_law 805 = .ok (.iload_n 3, 1) := by decide +kernel
theorem d_Lw_law_806 : decode b_Lw_law 806 = .ok (.iconst 2, 1) := by decide +kernel
theorem d_Lw_law_807 : decode b_Lw_law 807 = .ok (.iadd, 1) := by decide +kernel
theorem d_Lw_law_808 : decode b_Lw_law 808 = .ok (.iaload, 1) := by decide +kernel
theorem d_Lw_law_809 : decode b_Lw_law 809 = .ok (.aload_n 0, 1) := by decide +kernel
theorem d_Lw_law_810 : decode b_Lw_law 810 = .ok (.iload_n 3, 1) := by decide +kernel
theorem d_Lw_law_811 : decode b_Lw_law 811 = .ok (.iconst 3, 1) := by decide +kernel
theorem d_Lw_law_812 : decode b_Lw_law 812 = .ok (.iadd, 1) := by decide +kernel
theorem d_Lw_law_813 : decode b_Lw_law 813 = .ok (.iaload, 1) := by decide +kernel
theorem d_Lw_law_814 : decode b_Lw_law 814 = .ok (.aload_n 0, 1) := by decide +kernel
theorem d_Lw_law_815 : decode b_Lw_law 815 = .ok (.iload_n 3, 1) := by decide +kernel
theorem d_Lw_law_816 : decode b_Lw_law 816 = .ok (.iconst 4, 1) := by decide +kernel
theorem d_Lw_law_817 : decode b_Lw_law 817 = .ok (.iadd, 1) := by decide +kernel
theorem d_Lw_law_818 : decode b_Lw_law 818 = .ok (.iaload, 1) := by decide +kernel
theorem d_Lw_law_819 : decode b_Lw_law 819 = .ok (.aload_n 0, 1) := by decide +kernel
theorem d_Lw_law_820 : decode b_Lw_law 820 = .ok (.iload_n 3, 1) := by decide +kernel
theorem d_Lw_law_821 : decode b_Lw_law 821 = .ok (.iconst 5, 1) := by decide +kernel
theorem d_Lw_law_822 : decode b_Lw_law 822 = .ok (.iadd, 1) := by decide +kernel
theorem d_Lw_law_823 : decode b_Lw_law 823 = .ok (.iaload, 1) := by decide +kernel
theorem d_Lw_law_824 : decode b_Lw_law 824 = .ok (.invokevirtual 87, 3) := by decide +kernel
theorem d_Lw_law_827 : decode b_Lw_law 827 = .ok (.aload_n 2, 1) := by decide +kernel
theorem d_Lw_law_828 : decode b_Lw_law 828 = .ok (.aload_n 0, 1) := by decide +kernel
theorem d_Lw_law_829 : decode b_Lw_law 829 = .ok (.iload_n 3, 1) := by decide +kernel
theorem d_Lw_law_830 : decode b_Lw_law 830 = .ok (.iconst 1, 1) := by decide +kernel
theorem d_Lw_law_831 : decode b_Lw_law 831 = .ok (.iadd, 1) := by decide +kernel
theorem d_Lw_law_832 : decode b_Lw_law 832 = .ok (.iaload, 1) := by decide +kernel
theorem d_Lw_law_833 : decode b_Lw_law 833 = .ok (.aload_n 0, 1) := by decide +kernel
theorem d_Lw_law_834 : decode b_Lw_law 834 = .ok (.iload_n 3, 1) := by decide +kernel
theorem d_Lw_law_835 : decode b_Lw_law 835 = .ok (.iconst 2, 1) := by decide +kernel
theorem d_Lw_law_836 : decode b_Lw_law 836 = .ok (.iadd, 1) := by decide +kernel
theorem d_Lw_law_837 : decode b_Lw_law 837 = .ok (.iaload, 1) := by decide +kernel
theorem d_Lw_law_838 : decode b_Lw_law 838 = .ok (.aload_n 0, 1) := by decide +kernel
theorem d_Lw_law_839 : decode b_Lw_law 839 = .ok (.iload_n 3, 1) := by decide +kernel
theorem d_Lw_law_840 : decode b_Lw_law 840 = .ok (.iconst 3, 1) := by decide +kernel
theorem d_Lw_law_841 : decode b_Lw_law 841 = .ok (.iadd, 1) := by decide +kernel
theorem d_Lw_law_842 : decode b_Lw_law 842 = .ok (.iaload, 1) := by decide +kernel
theorem d_Lw_law_843 : decode b_Lw_law 843 = .ok (.aload_n 0, 1) := by decide +kernel
theorem d_Lw_law_844 : decode b_Lw_law 844 = .ok (.iload_n 3, 1) := by decide +kernel
theorem d_Lw_law_845 : decode b_Lw_law 845 = .ok (.iconst 4, 1) := by decide +kernel
theorem d_Lw_law_846 : decode b_Lw_law 846 = .ok (.iadd, 1) := by decide +kernel
theorem d_Lw_law_847 : decode b_Lw_law 847 = .ok (.iaload, 1) := by decide +kernel
theorem d_Lw_law_848 : decode b_Lw_law 848 = .ok (.aload_n 0, 1) := by decide +kernel
theorem d_Lw_law_849 : decode b_Lw_law 849 = .ok (.iload_n 3, 1) := by decide +kernel
theorem d_Lw_law_850 : decode b_Lw_law 850 = .ok (.iconst 5, 1) := by decide +kernel
theorem d_Lw_law_851 : decode b_Lw_law 851 = .ok (.iadd, 1) := by decide +kernel
theorem d_Lw_law_852 : decode b_Lw_law 852 = .ok (.iaload, 1) := by decide +kernel
theorem d_Lw_law_853 : decode b_Lw_law 853 = .ok (.invokevirtual 90, 3) := by decide +kernel
theorem d_Lw_law_856 : decode b_Lw_law 856 = .ok (.if_icmp .eq (842), 3) := by decide +kernel
theorem d_Lw_law_859 : decode b_Lw_law 859 = .ok (.iconst 0, 1) := by decide +kernel
theorem d_Lw_law_860 : decode b_Lw_law 860 = .ok (.ireturn, 1) := by decide +kernel
theorem d_Lw_law_861 : decode b_Lw_law 861 = .ok (.aload_n 1, 1) := by decide +kernel
theorem d_Lw_law_862 : decode b_Lw_law 862 = .ok (.aload_n 0, 1) := by decide +kernel
theorem d_Lw_law_863 : decode b_Lw_law 863 = .ok (.iload_n 3, 1) := by decide +kernel
theorem d_Lw_law_864 : decode b_Lw_law 864 = .ok (.iconst 1, 1) := by decide +kernel
theorem d_Lw_law_865 : decode b_Lw_law 865 = .ok (.iadd, 1) := by decide +kernel
theorem d_Lw_law_866 : decode b_Lw_law 866 = .ok (.iaload, 1) := by decide +kernel
theorem d_Lw_law_867 : decode b_Lw_law 867 = .ok (.aload_n 0, 1) := by decide +kernel
theorem d_Lw_law_868 : decode b_Lw_law 868 = .ok (.iload_n 3, 1) := by decide +kernel
theorem d_Lw_law_869 : decode b_Lw_law 869 = .ok (.iconst 2, 1) := by decide +kernel
theorem d_Lw_law_870 : decode b_Lw_law 870 = .ok (.iadd, 1) := by decide +kernel
theorem d_Lw_law_871 : decode b_Lw_law 871 = .ok (.iaload, 1) := by decide +kernel
theorem d_Lw_law_872 : decode b_Lw_law 872 = .ok (.aload_n 0, 1) := by decide +kernel
theorem d_Lw_law_873 : decode b_Lw_law 873 = .ok (.iload_n 3, 1) := by decide +kernel
theorem d_Lw_law_874 : decode b_Lw_law 874 = .ok (.iconst 3, 1) := by decide +kernel
theorem d_Lw_law_875 : decode b_Lw_law 875 = .ok (.iadd, 1) := by decide +kernel
theorem d_Lw_law_876 : decode b_Lw_law 876 = .ok (.iaload, 1) := by decide +kernel
theorem d_Lw_law_877 : decode b_Lw_law 877 = .ok (.aload_n 0, 1) := by decide +kernel
theorem d_Lw_law_878 : decode b_Lw_law 878 = .ok (.iload_n 3, 1) := by decide +kernel
theorem d_Lw_law_879 : decode b_Lw_law 879 = .ok (.iconst 4, 1) := by decide +kernel
theorem d_Lw_law_880 : decode b_Lw_law 880 = .ok (.iadd, 1) := by decide +kernel
theorem d_Lw_law_881 : decode b_Lw_law 881 = .ok (.iaload, 1) := by decide +kernel
theorem d_Lw_law_882 : decode b_Lw_law 882 = .ok (.invokevirtual 91, 3) := by decide +kernel
theorem d_Lw_law_885 : decode b_Lw_law 885 = .ok (.aload_n 2, 1) := by decide +kernel
theorem d_Lw_law_886 : decode b_Lw_law 886 = .ok (.aload_n 0, 1) := by decide +kernel
theorem d_Lw_law_887 : decode b_Lw_law 887 = .ok (.iload_n 3, 1) := by decide +kernel
theorem d_Lw_law_888 : decode b_Lw_law 888 = .ok (.iconst 1, 1) := by decide +kernel
theorem d_Lw_law_889 : decode b_Lw_law 889 = .ok (.iadd, 1) := by decide +kernel
theorem d_Lw_law_890 : decode b_Lw_law 890 = .ok (.iaload, 1) := by decide +kernel
theorem d_Lw_law_891 : decode b_Lw_law 891 = .ok (.aload_n 0, 1) := by decide +kernel
theorem d_Lw_law_892 : decode b_Lw_law 892 = .ok (.iload_n 3, 1) := by decide +kernel
theorem d_Lw_law_893 : decode b_Lw_law 893 = .ok (.iconst 2, 1) := by decide +kernel
theorem d_Lw_law_894 : decode b_Lw_law 894 = .ok (.iadd, 1) := by decide +kernel
theorem d_Lw_law_895 : decode b_Lw_law 895 = .ok (.iaload, 1) := by decide +kernel
theorem d_Lw_law_896 : decode b_Lw_law 896 = .ok (.aload_n 0, 1) := by decide +kernel
theorem d_Lw_law_897 : decode b_Lw_law 897 = .ok (.iload_n 3, 1) := by decide +kernel
theorem d_Lw_law_898 : decode b_Lw_law 898 = .ok (.iconst 3, 1) := by decide +kernel
theorem d_Lw_law_899 : decode b_Lw_law 899 = .ok (.iadd, 1) := by decide +kernel
theorem d_Lw_law_900 : decode b_Lw_law 900 = .ok (.iaload, 1) := by decide +kernel
theorem d_Lw_law_901 : decode b_Lw_law 901 = .ok (.aload_n 0, 1) := by decide +kernel
theorem d_Lw_law_902 : decode b_Lw_law 902 = .ok (.iload_n 3, 1) := by decide +kernel
theorem d_Lw_law_903 : decode b_Lw_law 903 = .ok (.iconst 4, 1) := by decide +kernel
theorem d_Lw_law_904 : decode b_Lw_law 904 = .ok (.iadd, 1) := by decide +kernel
theorem d_Lw_law_905 : decode b_Lw_law 905 = .ok (.iaload, 1) := by decide +kernel
theorem d_Lw_law_906 : decode b_Lw_law 906 = .ok (.invokevirtual 94, 3) := by decide +kernel
theorem d_Lw_law_909 : decode b_Lw_law 909 = .ok (.if_icmp .eq (789), 3) := by decide +kernel
theorem d_Lw_law_912 : decode b_Lw_law 912 = .ok (.iconst 0, 1) := by decide +kernel
theorem d_Lw_law_913 : decode b_Lw_law 913 = .ok (.ireturn, 1) := by decide +kernel
theorem d_Lw_law_914 : decode b_Lw_law 914 = .ok (.aload_n 1, 1) := by decide +kernel
theorem d_Lw_law_915 : decode b_Lw_law 915 = .ok (.aload_n 0, 1) := by decide +kernel
theorem d_Lw_law_916 : decode b_Lw_law 916 = .ok (.iload_n 3, 1) := by decide +kernel
theorem d_Lw_law_917 : decode b_Lw_law 917 = .ok (.iconst 1, 1) := by decide +kernel
theorem d_Lw_law_918 : decode b_Lw_law 918 = .ok (.iadd, 1) := by decide +kernel
theorem d_Lw_law_919 : decode b_Lw_law 919 = .ok (.iaload, 1) := by decide +kernel
theorem d_Lw_law_920 : decode b_Lw_law 920 = .ok (.aload_n 0, 1) := by decide +kernel
theorem d_Lw_law_921 : decode b_Lw_law 921 = .ok (.iload_n 3, 1) := by decide +kernel
theorem d_Lw_law_922 : decode b_Lw_law 922 = .ok (.iconst 2, 1) := by decide +kernel
theorem d_Lw_law_923 : decode b_Lw_law 923 = .ok (.iadd, 1) := by decide +kernel
theorem d_Lw_law_924 : decode b_Lw_law 924 = .ok (.iaload, 1) := by decide +kernel
theorem d_Lw_law_925 : decode b_Lw_law 925 = .ok (.invokevirtual 95, 3) := by decide +kernel
theorem d_Lw_law_928 : decode b_Lw_law 928 = .ok (.aload_n 2, 1) := by decide +kernel
theorem d_Lw_law_929 : decode b_Lw_law 929 = .ok (.aload_n 0, 1) := by decide +kernel
theorem d_Lw_law_930 : decode b_Lw_law 930 = .ok (.iload_n 3, 1) := by decide +kernel
theorem d_Lw_law_931 : decode b_Lw_law 931 = .ok (.iconst 1, 1) := by decide +kernel
theorem d_Lw_law_932 : decode b_Lw_law 932 = .ok (.iadd, 1) := by decide +kernel
theorem d_Lw_law_933 : decode b_Lw_law 933 = .ok (.iaload, 1) := by decide +kernel
theorem d_Lw_law_934 : decode b_Lw_law 934 = .ok (.aload_n 0, 1) := by decide +kernel
theorem d_Lw_law_935 : decode b_Lw_law 935 = .ok (.iload_n 3, 1) := by decide +kernel
theorem d_Lw_law_936 : decode b_Lw_law 936 = .ok (.iconst 2, 1) := by decide +kernel
theorem d_Lw_law_937 : decode b_Lw_law 937 = .ok (.iadd, 1) := by decide +kernel
theorem d_Lw_law_938 : decode b_Lw_law 938 = .ok (.iaload, 1) := by decide +kernel
theorem d_Lw_law_939 : decode b_Lw_law 939 = .ok (.invokevirtual 98, 3) := by decide +kernel
theorem d_Lw_law_942 : decode b_Lw_law 942 = .ok (.if_icmp .eq (756), 3) := by decide +kernel
theorem d_Lw_law_945 : decode b_Lw_law 945 = .ok (.iconst 0, 1) := by decide +kernel
theorem d_Lw_law_946 : decode b_Lw_law 946 = .ok (.ireturn, 1) := by decide +kernel
theorem d_Lw_law_947 : decode b_Lw_law 947 = .ok (.aload_n 1, 1) := by decide +kernel
theorem d_Lw_law_948 : decode b_Lw_law 948 = .ok (.aload_n 0, 1) := by decide +kernel
theorem d_Lw_law_949 : decode b_Lw_law 949 = .ok (.iload_n 3, 1) := by decide +kernel
theorem d_Lw_law_950 : decode b_Lw_law 950 = .ok (.iconst 1, 1) := by decide +kernel
theorem d_Lw_law_951 : decode b_Lw_law 951 = .ok (.iadd, 1) := by decide +kernel
theorem d_Lw_law_952 : decode b_Lw_law 952 = .ok (.iaload, 1) := by decide +kernel
theorem d_Lw_law_953 : decode b_Lw_law 953 = .ok (.aload_n 0, 1) := by decide +kernel
theorem d_Lw_law_954 : decode b_Lw_law 954 = .ok (.iload_n 3, 1) := by decide +kernel
theorem d_Lw_law_955 : decode b_Lw_law 955 = .ok (.iconst 2, 1) := by decide +kernel
theorem d_Lw_law_956 : decode b_Lw_law 956 = .ok (.iadd, 1) := by decide +kernel
theorem d_Lw_law_957 : decode b_Lw_law 957 = .ok (.iaload, 1) := by decide +kernel
theorem d_Lw_law_958 : decode b_Lw_law 958 = .ok (.invokevirtual 99, 3) := by decide +kernel
theorem d_Lw_law_961 : decode b_Lw_law 961 = .ok (.aload_n 2, 1) := by decide +kernel
theorem d_Lw_law_962 : decode b_Lw_law 962 = .ok (.aload_n 0, 1) := by decide +kernel
theorem d_Lw_law_963 : decode b_Lw_law 963 = .ok (.iload_n 3, 1) := by decide +kernel
theorem d_Lw_law_964 : decode b_Lw_law 964 = .ok (.iconst 1, 1) := by decide +kernel
theorem d_Lw_law_965 : decode b_Lw_law 965 = .ok (.iadd, 1) := by decide +kernel
theorem d_Lw_law_966 : decode b_Lw_law 966 = .ok (.iaload, 1) := by decide +kernel
theorem d_Lw_law_967 : decode b_Lw_law 967 = .ok (.aload_n 0, 1) := by decide +kernel
theorem d_Lw_law_968 : decode b_Lw_law 968 = .ok (.iload_n 3, 1) := by decide +kernel
theorem d_Lw_law_969 : decode b_Lw_law 969 = .ok (.iconst 2, 1) := by decide +kernel
theorem d_Lw_law_970 : decode b_Lw_law 970 = .ok (.iadd, 1) := by decide +kernel
theorem d_Lw_law_971 : decode b_Lw_law 971 = .ok (.iaload, 1) := by decide +kernel
theorem d_Lw_law_972 : decode b_Lw_law 972 = .ok (.invokevirtual 102, 3) := by decide +kernel
theorem d_Lw_law_975 : decode b_Lw_law 975 = .ok (.if_icmp .eq (723), 3) := by decide +kernel
theorem d_Lw_law_978 : decode b_Lw_law 978 = .ok (.iconst 0, 1) := by decide +kernel
theorem d_Lw_law_979 : decode b_Lw_law 979 = .ok (.ireturn, 1) := by decide +kernel
theorem d_Lw_law_980 : decode b_Lw_law 980 = .ok (.aload_n 1, 1) := by decide +kernel
theorem d_Lw_law_981 : decode b_Lw_law 981 = .ok (.aload_n 0, 1) := by decide +kernel
theorem d_Lw_law_982 : decode b_Lw_law 982 = .ok (.iload_n 3, 1) := by decide +kernel
theorem d_Lw_law_983 : decode b_Lw_law 983 = .ok (.iconst 1, 1) := by decide +kernel
theorem d_Lw_law_984 : decode b_Lw_law 984 = .ok (.iadd, 1) := by decide +kernel
theorem d_Lw_law_985 : decode b_Lw_law 985 = .ok (.iaload, 1) := by decide +kernel
theorem d_Lw_law_986 : decode b_Lw_law 986 = .ok (.aload_n 0, 1) := by decide +kernel
theorem d_Lw_law_987 : decode b_Lw_law 987 = .ok (.iload_n 3, 1) := by decide +kernel
theorem d_Lw_law_988 : decode b_Lw_law 988 = .ok (.iconst 2, 1) := by decide +kernel
theorem d_Lw_law_989 : decode b_Lw_law 989 = .ok (.iadd, 1) := by decide +kernel
theorem d_Lw_law_990 : decode b_Lw_law 990 = .ok (.iaload, 1) := by decide +kernel
theorem d_Lw_law_991 : decode b_Lw_law 991 = .ok (.aload_n 0, 1) := by decide +kernel
theorem d_Lw_law_992 : decode b_Lw_law 992 = .ok (.iload_n 3, 1) := by decide +kernel
theorem d_Lw_law_993 : decode b_Lw_law 993 = .ok (.iconst 3, 1) := by decide +kernel
theorem d_Lw_law_994 : decode b_Lw_law 994 = .ok (.iadd, 1) := by decide +kernel
theorem d_Lw_law_995 : decode b_Lw_law 995 = .ok (.iaload, 1) := by decide +kernel
theorem d_Lw_law_996 : decode b_Lw_law 996 = .ok (.aload_n 0, 1) := by decide +kernel
theorem d_Lw_law_997 : decode b_Lw_law 997 = .ok (.iload_n 3, 1) := by decide +kernel
theorem d_Lw_law_998 : decode b_Lw_law 998 = .ok (.iconst 4, 1) := by decide +kernel
theorem d_Lw_law_999 : decode b_Lw_law 999 = .ok (.iadd, 1) := by decide +kernel
theorem d_Lw_law_1000 : decode b_Lw_law 1000 = .ok (.iaload, 1) := by decide +kernel
theorem d_Lw_law_1001 : decode b_Lw_law 1001 = .ok (.invokevirtual 103, 3) := by decide +kernel
theorem d_Lw_law_1004 : decode b_Lw_law 1004 = .ok (.aload_n 2, 1) := by decide +kernel
theorem d_Lw_law_1005 : decode b_Lw_law 1005 = .ok (.aload_n 0, 1) := by decide +kernel
theorem d_Lw_law_1006 : decode b_Lw_law 1006 = .ok (.iload_n 3, 1) := by decide +kernel
theorem d_Lw_law_1007 : decode b_Lw_law 1007 = .ok (.iconst 1, 1) := by decide +kernel
theorem d_Lw_law_1008 : decode b_Lw_law 1008 = .ok (.iadd, 1) := by decide +kernel
theorem d_Lw_law_1009 : decode b_Lw_law 1009 = .ok (.iaload, 1) := by decide +kernel
theorem d_Lw_law_1010 : decode b_Lw_law 1010 = .ok (.aload_n 0, 1) := by decide +kernel
theorem d_Lw_law_1011 : decode b_Lw_law 1011 = .ok (.iload_n 3, 1) := by decide +kernel
theorem d_Lw_law_1012 : decode b_Lw_law 1012 = .ok (.iconst 2, 1) := by decide +kernel
theorem d_Lw_law_1013 : decode b_Lw_law 1013 = .ok (.iadd, 1) := by decide +kernel
theorem d_Lw_law_1014 : decode b_Lw_law 1014 = .ok (.iaload, 1) := by decide +kernel
theorem d_Lw_law_1015 : decode b_Lw_law 1015 = .ok (.aload_n 0, 1) := by decide +kernel
theorem d_Lw_law_1016 : decode b_Lw_law 1016 = .ok (.iload_n 3, 1) := by decide +kernel
theorem d_Lw_law_1017 : decode b_Lw_law 1017 = .ok (.iconst 3, 1) := by decide +kernel
theorem d_Lw_law_1018 : decode b_Lw_law 1018 = .ok (.iadd, 1) := by decide +kernel
theorem d_Lw_law_1019 : decode b_Lw_law 1019 = .ok (.iaload, 1) := by decide +kernel
theorem d_Lw_law_1020 : decode b_Lw_law 1020 = .ok (.aload_n 0, 1) := by decide +kernel
theorem d_Lw_law_1021 : decode b_Lw_law 1021 = .ok (.iload_n 3, 1) := by decide +kernel
theorem d_Lw_law_1022 : decode b_Lw_law 1022 = .ok (.iconst 4, 1) := by decide +kernel
theorem d_Lw_law_1023 : decode b_Lw_law 1023 = .ok (.iadd, 1) := by decide +kernel
theorem d_Lw_law_1024 : decode b_Lw_law 1024 = .ok (.iaload, 1) := by decide +kernel
theorem d_Lw_law_1025 : decode b_Lw_law 1025 = .ok (.invokevirtual 106, 3) := by decide +kernel
theorem d_Lw_law_1028 : decode b_Lw_law 1028 = .ok (.if_icmp .eq (670), 3) := by decide +kernel
theorem d_Lw_law_1031 : decode b_Lw_law 1031 = .ok (.iconst 0, 1) := by decide +kernel
theorem d_Lw_law_1032 : decode b_Lw_law 1032 = .ok (.ireturn, 1) := by decide +kernel
theorem d_Lw_law_1033 : decode b_Lw_law 1033 = .ok (.aload_n 1, 1) := by decide +kernel
theorem d_Lw_law_1034 : decode b_Lw_law 1034 = .ok (.aload_n 0, 1) := by decide +kernel
theorem d_Lw_law_1035 : decode b_Lw_law 1035 = .ok (.iload_n 3, 1) := by decide +kernel
theorem d_Lw_law_1036 : decode b_Lw_law 1036 = .ok (.iconst 1, 1) := by decide +kernel
theorem d_Lw_law_1037 : decode b_Lw_law 1037 = .ok (.iadd, 1) := by decide +kernel
theorem d_Lw_law_1038 : decode b_Lw_law 1038 = .ok (.iaload, 1) := by decide +kernel
theorem d_Lw_law_1039 : decode b_Lw_law 1039 = .ok (.aload_n 0, 1) := by decide +kernel
theorem d_Lw_law_1040 : decode b_Lw_law 1040 = .ok (.iload_n 3, 1) := by decide +kernel
theorem d_Lw_law_1041 : decode b_Lw_law 1041 = .ok (.iconst 2, 1) := by decide +kernel
theorem d_Lw_law_1042 : decode b_Lw_law 1042 = .ok (.iadd, 1) := by decide +kernel
theorem d_Lw_law_1043 : decode b_Lw_law 1043 = .ok (.iaload, 1) := by decide +kernel
theorem d_Lw_law_1044 : decode b_Lw_law 1044 = .ok (.invokevirtual 107, 3) := by decide +kernel
theorem d_Lw_law_1047 : decode b_Lw_law 1047 = .ok (.aload_n 2, 1) := by decide +kernel
theorem d_Lw_law_1048 : decode b_Lw_law 1048 = .ok (.aload_n 0, 1) := by decide +kernel
theorem d_Lw_law_1049 : decode b_Lw_law 1049 = .ok (.iload_n 3, 1) := by decide +kernel
theorem d_Lw_law_1050 : decode b_Lw_law 1050 = .ok (.iconst 1, 1) := by decide +kernel
theorem d_Lw_law_1051 : decode b_Lw_law 1051 = .ok (.iadd, 1) := by decide +kernel
theorem d_Lw_law_1052 : decode b_Lw_law 1052 = .ok (.iaload, 1) := by decide +kernel
theorem d_Lw_law_1053 : decode b_Lw_law 1053 = .ok (.aload_n 0, 1) := by decide +kernel
theorem d_Lw_law_1054 : decode b_Lw_law 1054 = .ok (.iload_n 3, 1) := by decide +kernel
theorem d_Lw_law_1055 : decode b_Lw_law 1055 = .ok (.iconst 2, 1) := by decide +kernel
theorem d_Lw_law_1056 : decode b_Lw_law 1056 = .ok (.iadd, 1) := by decide +kernel
theorem d_Lw_law_1057 : decode b_Lw_law 1057 = .ok (.iaload, 1) := by decide +kernel
theorem d_Lw_law_1058 : decode b_Lw_law 1058 = .ok (.invokevirtual 110, 3) := by decide +kernel
theorem d_Lw_law_1061 : decode b_Lw_law 1061 = .ok (.if_icmp .eq (637), 3) := by decide +kernel
theorem d_Lw_law_1064 : decode b_Lw_law 1064 = .ok (.iconst 0, 1) := by decide +kernel
theorem d_Lw_law_1065 : decode b_Lw_law 1065 = .ok (.ireturn, 1) := by decide +kernel
theorem d_Lw_law_1066 : decode b_Lw_law 1066 = .ok (.aload_n 1, 1) := by decide +kernel
theorem d_Lw_law_1067 : decode b_Lw_law 1067 = .ok (.aload_n 0, 1) := by decide +kernel
theorem d_Lw_law_1068 : decode b_Lw_law 1068 = .ok (.iload_n 3, 1) := by decide +kernel
theorem d_Lw_law_1069 : decode b_Lw_law 1069 = .ok (.iconst 1, 1) := by decide +kernel
theorem d_Lw_law_1070 : decode b_Lw_law 1070 = .ok (.iadd, 1) := by decide +kernel
theorem d_Lw_law_1071 : decode b_Lw_law 1071 = .ok (.iaload, 1) := by decide +kernel
theorem d_Lw_law_1072 : decode b_Lw_law 1072 = .ok (.aload_n 0, 1) := by decide +kernel
theorem d_Lw_law_1073 : decode b_Lw_law 1073 = .ok (.iload_n 3, 1) := by decide +kernel
theorem d_Lw_law_1074 : decode b_Lw_law 1074 = .ok (.iconst 2, 1) := by decide +kernel
theorem d_Lw_law_1075 : decode b_Lw_law 1075 = .ok (.iadd, 1) := by decide +kernel
theorem d_Lw_law_1076 : decode b_Lw_law 1076 = .ok (.iaload, 1) := by decide +kernel
theorem d_Lw_law_1077 : decode b_Lw_law 1077 = .ok (.aload_n 0, 1) := by decide +kernel
theorem d_Lw_law_1078 : decode b_Lw_law 1078 = .ok (.iload_n 3, 1) := by decide +kernel
theorem d_Lw_law_1079 : decode b_Lw_law 1079 = .ok (.iconst 3, 1) := by decide +kernel
theorem d_Lw_law_1080 : decode b_Lw_law 1080 = .ok (.iadd, 1) := by decide +kernel
theorem d_Lw_law_1081 : decode b_Lw_law 1081 = .ok (.iaload, 1) := by decide +kernel
theorem d_Lw_law_1082 : decode b_Lw_law 1082 = .ok (.invokevirtual 111, 3) := by decide +kernel
theorem d_Lw_law_1085 : decode b_Lw_law 1085 = .ok (.aload_n 2, 1) := by decide +kernel
theorem d_Lw_law_1086 : decode b_Lw_law 1086 = .ok (.aload_n 0, 1) := by decide +kernel
theorem d_Lw_law_1087 : decode b_Lw_law 1087 = .ok (.iload_n 3, 1) := by decide +kernel
theorem d_Lw_law_1088 : decode b_Lw_law 1088 = .ok (.iconst 1, 1) := by decide +kernel
theorem d_Lw_law_1089 : decode b_Lw_law 1089 = .ok (.iadd, 1) := by decide +kernel
theorem d_Lw_law_1090 : decode b_Lw_law 1090 = .ok (.iaload, 1) := by decide +kernel
theorem d_Lw_law_1091 : decode b_Lw_law 1091 = .ok (.aload_n 0, 1) := by decide +kernel
theorem d_Lw_law_1092 : decode b_Lw_law 1092 = .ok (.iload_n 3, 1) := by decide +kernel
theorem d_Lw_law_1093 : decode b_Lw_law 1093 = .ok (.iconst 2, 1) := by decide +kernel
theorem d_Lw_law_1094 : decode b_Lw_law 1094 = .ok (.iadd, 1) := by decide +kernel
theorem d_Lw_law_1095 : decode b_Lw_law 1095 = .ok (.iaload, 1) := by decide +kernel
theorem d_Lw_law_1096 : decode b_Lw_law 1096 = .ok (.aload_n 0, 1) := by decide +kernel
theorem d_Lw_law_1097 : decode b_Lw_law 1097 = .ok (.iload_n 3, 1) := by decide +kernel
theorem d_Lw_law_1098 : decode b_Lw_law 1098 = .ok (.iconst 3, 1) := by decide +kernel
theorem d_Lw_law_1099 : decode b_Lw_law 1099 = .ok (.iadd, 1) := by decide +kernel
theorem d_Lw_law_1100 : decode b_Lw_law 1100 = .ok (.iaload, 1) := by decide +kernel
theorem d_Lw_law_1101 : decode b_Lw_law 1101 = .ok (.invokevirtual 114, 3) := by decide +kernel
theorem d_Lw_law_1104 : decode b_Lw_law 1104 = .ok (.if_icmp .eq (594), 3) := by decide +kernel
theorem d_Lw_law_1107 : decode b_Lw_law 1107 = .ok (.iconst 0, 1) := by decide +kernel
theorem d_Lw_law_1108 : decode b_Lw_law 1108 = .ok (.ireturn, 1) := by decide +kernel
theorem d_Lw_law_1109 : decode b_Lw_law 1109 = .ok (.aload_n 1, 1) := by decide +kernel
theorem d_Lw_law_1110 : decode b_Lw_law 1110 = .ok (.aload_n 0, 1) := by decide +kernel
theorem d_Lw_law_1111 : decode b_Lw_law 1111 = .ok (.iload_n 3, 1) := by decide +kernel
theorem d_Lw_law_1112 : decode b_Lw_law 1112 = .ok (.iconst 1, 1) := by decide +kernel
theorem d_Lw_law_1113 : decode b_Lw_law 1113 = .ok (.iadd, 1) := by decide +kernel
theorem d_Lw_law_1114 : decode b_Lw_law 1114 = .ok (.iaload, 1) := by decide +kernel
theorem d_Lw_law_1115 : decode b_Lw_law 1115 = .ok (.aload_n 0, 1) := by decide +kernel
theorem d_Lw_law_1116 : decode b_Lw_law 1116 = .ok (.iload_n 3, 1) := by decide +kernel
theorem d_Lw_law_1117 : decode b_Lw_law 1117 = .ok (.iconst 2, 1) := by decide +kernel
theorem d_Lw_law_1118 : decode b_Lw_law 1118 = .ok (.iadd, 1) := by decide +kernel
theorem d_Lw_law_1119 : decode b_Lw_law 1119 = .ok (.iaload, 1) := by decide +kernel
theorem d_Lw_law_1120 : decode b_Lw_law 1120 = .ok (.invokevirtual 115, 3) := by decide +kernel
theorem d_Lw_law_1123 : decode b_Lw_law 1123 = .ok (.aload_n 2, 1) := by decide +kernel
theorem d_Lw_law_1124 : decode b_Lw_law 1124 = .ok (.aload_n 0, 1) := by decide +kernel
theorem d_Lw_law_1125 : decode b_Lw_law 1125 = .ok (.iload_n 3, 1) := by decide +kernel
theorem d_Lw_law_1126 : decode b_Lw_law 1126 = .ok (.iconst 1, 1) := by decide +kernel
theorem d_Lw_law_1127 : decode b_Lw_law 1127 = .ok (.iadd, 1) := by decide +kernel
theorem d_Lw_law_1128 : decode b_Lw_law 1128 = .ok (.iaload, 1) := by decide +kernel
theorem d_Lw_law_1129 : decode b_Lw_law 1129 = .ok (.aload_n 0, 1) := by decide +kernel
theorem d_Lw_law_1130 : decode b_Lw_law 1130 = .ok (.iload_n 3, 1) := by decide +kernel
theorem d_Lw_law_1131 : decode b_Lw_law 1131 = .ok (.iconst 2, 1) := by decide +kernel
theorem d_Lw_law_1132 : decode b_Lw_law 1132 = .ok (.iadd, 1) := by decide +kernel
theorem d_Lw_law_1133 : decode b_Lw_law 1133 = .ok (.iaload, 1) := by decide +kernel
theorem d_Lw_law_1134 : decode b_Lw_law 1134 = .ok (.invokevirtual 118, 3) := by decide +kernel
theorem d_Lw_law_1137 : decode b_Lw_law 1137 = .ok (.if_icmp .eq (561), 3) := by decide +kernel
theorem d_Lw_law_1140 : decode b_Lw_law 1140 = .ok (.iconst 0, 1) := by decide +kernel
theorem d_Lw_law_1141 : decode b_Lw_law 1141 = .ok (.ireturn, 1) := by decide +kernel
theorem d_Lw_law_1142 : decode b_Lw_law 1142 = .ok (.aload_n 1, 1) := by decide +kernel
theorem d_Lw_law_1143 : decode b_Lw_law 1143 = .ok (.aload_n 0, 1) := by decide +kernel
theorem d_Lw_law_1144 : decode b_Lw_law 1144 = .ok (.iload_n 3, 1) := by decide +kernel
theorem d_Lw_law_1145 : decode b_Lw_law 1145 = .ok (.iconst 1, 1) := by decide +kernel
theorem d_Lw_law_1146 : decode b_Lw_law 1146 = .ok (.iadd, 1) := by decide +kernel
theorem d_Lw_law_1147 : decode b_Lw_law 1147 = .ok (.iaload, 1) := by decide +kernel
theorem d_Lw_law_1148 : decode b_Lw_law 1148 = .ok (.invokevirtual 119, 3) := by decide +kernel
theorem d_Lw_law_1151 : decode b_Lw_law 1151 = .ok (.aload_n 2, 1) := by decide +kernel
theorem d_Lw_law_1152 : decode b_Lw_law 1152 = .ok (.aload_n 0, 1) := by decide +kernel
theorem d_Lw_law_1153 : decode b_Lw_law 1153 = .ok (.iload_n 3, 1) := by decide +kernel
theorem d_Lw_law_1154 : decode b_Lw_law 1154 = .ok (.iconst 1, 1) := by decide +kernel
theorem d_Lw_law_1155 : decode b_Lw_law 1155 = .ok (.iadd, 1) := by decide +kernel
theorem d_Lw_law_1156 : decode b_Lw_law 1156 = .ok (.iaload, 1) := by decide +kernel
theorem d_Lw_law_1157 : decode b_Lw_law 1157 = .ok (.invokevirtual 122, 3) := by decide +kernel
theorem d_Lw_law_1160 : decode b_Lw_law 1160 = .ok (.if_icmp .eq (538), 3) := by decide +kernel
theorem d_Lw_law_1163 : decode b_Lw_law 1163 = .ok (.iconst 0, 1) := by decide +kernel
theorem d_Lw_law_1164 : decode b_Lw_law 1164 = .ok (.ireturn, 1) := by decide +kernel
theorem d_Lw_law_1165 : decode b_Lw_law 1165 = .ok (.aload_n 1, 1) := by decide +kernel
theorem d_Lw_law_1166 : decode b_Lw_law 1166 = .ok (.aload_n 0, 1) := by decide +kernel
theorem d_Lw_law_1167 : decode b_Lw_law 1167 = .ok (.iload_n 3, 1) := by decide +kernel
theorem d_Lw_law_1168 : decode b_Lw_law 1168 = .ok (.iconst 1, 1) := by decide +kernel
theorem d_Lw_law_1169 : decode b_Lw_law 1169 = .ok (.iadd, 1) := by decide +kernel
theorem d_Lw_law_1170 : decode b_Lw_law 1170 = .ok (.iaload, 1) := by decide +kernel
theorem d_Lw_law_1171 : decode b_Lw_law 1171 = .ok (.aload_n 0, 1) := by decide +kernel
theorem d_Lw_law_1172 : decode b_Lw_law 1172 = .ok (.iload_n 3, 1) := by decide +kernel
theorem d_Lw_law_1173 : decode b_Lw_law 1173 = .ok (.iconst 2, 1) := by decide +kernel
theorem d_Lw_law_1174 : decode b_Lw_law 1174 = .ok (.iadd, 1) := by decide +kernel
theorem d_Lw_law_1175 : decode b_Lw_law 1175 = .ok (.iaload, 1) := by decide +kernel
theorem d_Lw_law_1176 : decode b_Lw_law 1176 = .ok (.aload_n 0, 1) := by decide +kernel
theorem d_Lw_law_1177 : decode b_Lw_law 1177 = .ok (.iload_n 3, 1) := by decide +kernel
theorem d_Lw_law_1178 : decode b_Lw_law 1178 = .ok (.iconst 3, 1) := by decide +kernel
theorem d_Lw_law_1179 : decode b_Lw_law 1179 = .ok (.iadd, 1) := by decide +kernel
theorem d_Lw_law_1180 : decode b_Lw_law 1180 = .ok (.iaload, 1) := by decide +kernel
theorem d_Lw_law_1181 : decode b_Lw_law 1181 = .ok (.aload_n 0, 1) := by decide +kernel
theorem d_Lw_law_1182 : decode b_Lw_law 1182 = .ok (.iload_n 3, 1) := by decide +kernel
theorem d_Lw_law_1183 : decode b_Lw_law 1183 = .ok (.iconst 4, 1) := by decide +kernel
theorem d_Lw_law_1184 : decode b_Lw_law 1184 = .ok (.iadd, 1) := by decide +kernel
theorem d_Lw_law_1185 : decode b_Lw_law 1185 = .ok (.iaload, 1) := by decide +kernel
theorem d_Lw_law_1186 : decode b_Lw_law 1186 = .ok (.invokevirtual 123, 3) := by decide +kernel
theorem d_Lw_law_1189 : decode b_Lw_law 1189 = .ok (.aload_n 2, 1) := by decide +kernel
theorem d_Lw_law_1190 : decode b_Lw_law 1190 = .ok (.aload_n 0, 1) := by decide +kernel
theorem d_Lw_law_1191 : decode b_Lw_law 1191 = .ok (.iload_n 3, 1) := by decide +kernel
theorem d_Lw_law_1192 : decode b_Lw_law 1192 = .ok (.iconst 1, 1) := by decide +kernel
theorem d_Lw_law_1193 : decode b_Lw_law 1193 = .ok (.iadd, 1) := by decide +kernel
theorem d_Lw_law_1194 : decode b_Lw_law 1194 = .ok (.iaload, 1) := by decide +kernel
theorem d_Lw_law_1195 : decode b_Lw_law 1195 = .ok (.aload_n 0, 1) := by decide +kernel
theorem d_Lw_law_1196 : decode b_Lw_law 1196 = .ok (.iload_n 3, 1) := by decide +kernel
theorem d_Lw_law_1197 : decode b_Lw_law 1197 = .ok (.iconst 2, 1) := by decide +kernel
theorem d_Lw_law_1198 : decode b_Lw_law 1198 = .ok (.iadd, 1) := by decide +kernel
theorem d_Lw_law_1199 : decode b_Lw_law 1199 = .ok (.iaload, 1) := by decide +kernel
theorem d_Lw_law_1200 : decode b_Lw_law 1200 = .ok (.aload_n 0, 1) := by decide +kernel
theorem d_Lw_law_1201 : decode b_Lw_law 1201 = .ok (.iload_n 3, 1) := by decide +kernel
theorem d_Lw_law_1202 : decode b_Lw_law 1202 = .ok (.iconst 3, 1) := by decide +kernel
theorem d_Lw_law_1203 : decode b_Lw_law 1203 = .ok (.iadd, 1) := by decide +kernel
theorem d_Lw_law_1204 : decode b_Lw_law 1204 = .ok (.iaload, 1) := by decide +kernel
theorem d_Lw_law_1205 : decode b_Lw_law 1205 = .ok (.aload_n 0, 1) := by decide +kernel
theorem d_Lw_law_1206 : decode b_Lw_law 1206 = .ok (.iload_n 3, 1) := by decide +kernel
theorem d_Lw_law_1207 : decode b_Lw_law 1207 = .ok (.iconst 4, 1) := by decide +kernel
theorem d_Lw_law_1208 : decode b_Lw_law 1208 = .ok (.iadd, 1) := by decide +kernel
theorem d_Lw_law_1209 : decode b_Lw_law 1209 = .ok (.iaload, 1) := by decide +kernel
theorem d_Lw_law_1210 : decode b_Lw_law 1210 = .ok (.invokevirtual 126, 3) := by decide +kernel
theorem d_Lw_law_1213 : decode b_Lw_law 1213 = .ok (.if_icmp .eq (485), 3) := by decide +kernel
theorem d_Lw_law_1216 : decode b_Lw_law 1216 = .ok (.iconst 0, 1) := by decide +kernel
theorem d_Lw_law_1217 : decode b_Lw_law 1217 = .ok (.ireturn, 1) := by decide +kernel
theorem d_Lw_law_1218 : decode b_Lw_law 1218 = .ok (.aload_n 1, 1) := by decide +kernel
theorem d_Lw_law_1219 : decode b_Lw_law 1219 = .ok (.aload_n 0, 1) := by decide +kernel
theorem d_Lw_law_1220 : decode b_Lw_law 1220 = .ok (.iload_n 3, 1) := by decide +kernel
theorem d_Lw_law_1221 : decode b_Lw_law 1221 = .ok (.iconst 1, 1) := by decide +kernel
theorem d_Lw_law_1222 : decode b_Lw_law 1222 = .ok (.iadd, 1) := by decide +kernel
theorem d_Lw_law_1223 : decode b_Lw_law 1223 = .ok (.iaload, 1) := by decide +kernel
theorem d_Lw_law_1224 : decode b_Lw_law 1224 = .ok (.invokevirtual 127, 3) := by decide +kernel
theorem d_Lw_law_1227 : decode b_Lw_law 1227 = .ok (.aload_n 2, 1) := by decide +kernel
theorem d_Lw_law_1228 : decode b_Lw_law 1228 = .ok (.aload_n 0, 1) := by decide +kernel
theorem d_Lw_law_1229 : decode b_Lw_law 1229 = .ok (.iload_n 3, 1) := by decide +kernel
theorem d_Lw_law_1230 : decode b_Lw_law 1230 = .ok (.iconst 1, 1) := by decide +kernel
theorem d_Lw_law_1231 : decode b_Lw_law 1231 = .ok (.iadd, 1) := by decide +kernel
theorem d_Lw_law_1232 : decode b_Lw_law 1232 = .ok (.iaload, 1) := by decide +kernel
theorem d_Lw_law_1233 : decode b_Lw_law 1233 = .ok (.invokevirtual 130, 3) := by decide +kernel
theorem d_Lw_law_1236 : decode b_Lw_law 1236 = .ok (.if_icmp .eq (462), 3) := by decide +kernel
theorem d_Lw_law_1239 : decode b_Lw_law 1239 = .ok (.iconst 0, 1) := by decide +kernel
theorem d_Lw_law_1240 : decode b_Lw_law 1240 = .ok (.ireturn, 1) := by decide +kernel
theorem d_Lw_law_1241 : decode b_Lw_law 1241 = .ok (.aload_n 1, 1) := by decide +kernel
theorem d_Lw_law_1242 : decode b_Lw_law 1242 = .ok (.aload_n 0, 1) := by decide +kernel
theorem d_Lw_law_1243 : decode b_Lw_law 1243 = .ok (.iload_n 3, 1) := by decide +kernel
theorem d_Lw_law_1244 : decode b_Lw_law 1244 = .ok (.iconst 1, 1) := by decide +kernel
theorem d_Lw_law_1245 : decode b_Lw_law 1245 = .ok (.iadd, 1) := by decide +kernel
theorem d_Lw_law_1246 : decode b_Lw_law 1246 = .ok (.iaload, 1) := by decide +kernel
theorem d_Lw_law_1247 : decode b_Lw_law 1247 = .ok (.invokevirtual 131, 3) := by decide +kernel
theorem d_Lw_law_1250 : decode b_Lw_law 1250 = .ok (.aload_n 2, 1) := by decide +kernel
theorem d_Lw_law_1251 : decode b_Lw_law 1251 = .ok (.aload_n 0, 1) := by decide +kernel
theorem d_Lw_law_1252 : decode b_Lw_law 1252 = .ok (.iload_n 3, 1) := by decide +kernel
theorem d_Lw_law_1253 : decode b_Lw_law 1253 = .ok (.iconst 1, 1) := by decide +kernel
theorem d_Lw_law_1254 : decode b_Lw_law 1254 = .ok (.iadd, 1) := by decide +kernel
theorem d_Lw_law_1255 : decode b_Lw_law 1255 = .ok (.iaload, 1) := by decide +kernel
theorem d_Lw_law_1256 : decode b_Lw_law 1256 = .ok (.invokevirtual 134, 3) := by decide +kernel
theorem d_Lw_law_1259 : decode b_Lw_law 1259 = .ok (.if_icmp .eq (439), 3) := by decide +kernel
theorem d_Lw_law_1262 : decode b_Lw_law 1262 = .ok (.iconst 0, 1) := by decide +kernel
theorem d_Lw_law_1263 : decode b_Lw_law 1263 = .ok (.ireturn, 1) := by decide +kernel
theorem d_Lw_law_1264 : decode b_Lw_law 1264 = .ok (.aload_n 1, 1) := by decide +kernel
theorem d_Lw_law_1265 : decode b_Lw_law 1265 = .ok (.aload_n 0, 1) := by decide +kernel
theorem d_Lw_law_1266 : decode b_Lw_law 1266 = .ok (.iload_n 3, 1) := by decide +kernel
theorem d_Lw_law_1267 : decode b_Lw_law 1267 = .ok (.iconst 1, 1) := by decide +kernel
theorem d_Lw_law_1268 : decode b_Lw_law 1268 = .ok (.iadd, 1) := by decide +kernel
theorem d_Lw_law_1269 : decode b_Lw_law 1269 = .ok (.iaload, 1) := by decide +kernel
theorem d_Lw_law_1270 : decode b_Lw_law 1270 = .ok (.aload_n 0, 1) := by decide +kernel
theorem d_Lw_law_1271 : decode b_Lw_law 1271 = .ok (.iload_n 3, 1) := by decide +kernel
theorem d_Lw_law_1272 : decode b_Lw_law 1272 = .ok (.iconst 2, 1) := by decide +kernel
theorem d_Lw_law_1273 : decode b_Lw_law 1273 = .ok (.iadd, 1) := by decide +kernel
theorem d_Lw_law_1274 : decode b_Lw_law 1274 = .ok (.iaload, 1) := by decide +kernel
theorem d_Lw_law_1275 : decode b_Lw_law 1275 = .ok (.invokevirtual 135, 3) := by decide +kernel
theorem d_Lw_law_1278 : decode b_Lw_law 1278 = .ok (.aload_n 2, 1) := by decide +kernel
theorem d_Lw_law_1279 : decode b_Lw_law 1279 = .ok (.aload_n 0, 1) := by decide +kernel
theorem d_Lw_law_1280 : decode b_Lw_law 1280 = .ok (.iload_n 3, 1) := by decide +kernel
theorem d_Lw_law_1281 : decode b_Lw_law 1281 = .ok (.iconst 1, 1) := by decide +kernel
theorem d_Lw_law_1282 : decode b_Lw_law 1282 = .ok (.iadd, 1) := by decide +kernel
theorem d_Lw_law_1283 : decode b_Lw_law 1283 = .ok (.iaload, 1) := by decide +kernel
theorem d_Lw_law_1284 : decode b_Lw_law 1284 = .ok (.aload_n 0, 1) := by decide +kernel
theorem d_Lw_law_1285 : decode b_Lw_law 1285 = .ok (.iload_n 3, 1) := by decide +kernel
theorem d_Lw_law_1286 : decode b_Lw_law 1286 = .ok (.iconst 2, 1) := by decide +kernel
theorem d_Lw_law_1287 : decode b_Lw_law 1287 = .ok (.iadd, 1) := by decide +kernel
theorem d_Lw_law_1288 : decode b_Lw_law 1288 = .ok (.iaload, 1) := by decide +kernel
theorem d_Lw_law_1289 : decode b_Lw_law 1289 = .ok (.invokevirtual 138, 3) := by decide +kernel
theorem d_Lw_law_1292 : decode b_Lw_law 1292 = .ok (.if_icmp .eq (406), 3) := by decide +kernel
theorem d_Lw_law_1295 : decode b_Lw_law 1295 = .ok (.iconst 0, 1) := by decide +kernel
theorem d_Lw_law_1296 : decode b_Lw_law 1296 = .ok (.ireturn, 1) := by decide +kernel
theorem d_Lw_law_1297 : decode b_Lw_law 1297 = .ok (.aload_n 1, 1) := by decide +kernel
theorem d_Lw_law_1298 : decode b_Lw_law 1298 = .ok (.aload_n 0, 1) := by decide +kernel
theorem d_Lw_law_1299 : decode b_Lw_law 1299 = .ok (.iload_n 3, 1) := by decide +kernel
theorem d_Lw_law_1300 : decode b_Lw_law 1300 = .ok (.iconst 1, 1) := by decide +kernel
theorem d_Lw_law_1301 : decode b_Lw_law 1301 = .ok (.iadd, 1) := by decide +kernel
theorem d_Lw_law_1302 : decode b_Lw_law 1302 = .ok (.iaload, 1) := by decide +kernel
theorem d_Lw_law_1303 : decode b_Lw_law 1303 = .ok (.aload_n 0, 1) := by decide +kernel
theorem d_Lw_law_1304 : decode b_Lw_law 1304 = .ok (.iload_n 3, 1) := by decide +kernel
theorem d_Lw_law_1305 : decode b_Lw_law 1305 = .ok (.iconst 2, 1) := by decide +kernel
theorem d_Lw_law_1306 : decode b_Lw_law 1306 = .ok (.iadd, 1) := by decide +kernel
theorem d_Lw_law_1307 : decode b_Lw_law 1307 = .ok (.iaload, 1) := by decide +kernel
theorem d_Lw_law_1308 : decode b_Lw_law 1308 = .ok (.aload_n 0, 1) := by decide +kernel
theorem d_Lw_law_1309 : decode b_Lw_law 1309 = .ok (.iload_n 3, 1) := by decide +kernel
theorem d_Lw_law_1310 : decode b_Lw_law 1310 = .ok (.iconst 3, 1) := by decide +kernel
theorem d_Lw_law_1311 : decode b_Lw_law 1311 = .ok (.iadd, 1) := by decide +kernel
theorem d_Lw_law_1312 : decode b_Lw_law 1312 = .ok (.iaload, 1) := by decide +kernel
theorem d_Lw_law_1313 : decode b_Lw_law 1313 = .ok (.invokevirtual 139, 3) := by decide +kernel
theorem d_Lw_law_1316 : decode b_Lw_law 1316 = .ok (.aload_n 2, 1) := by decide +kernel
theorem d_Lw_law_1317 : decode b_Lw_law 1317 = .ok (.aload_n 0, 1) := by decide +kernel
theorem d_Lw_law_1318 : decode b_Lw_law 1318 = .ok (.iload_n 3, 1) := by decide +kernel
theorem d_Lw_law_1319 : decode b_Lw_law 1319 = .ok (.iconst 1, 1) := by decide +kernel
theorem d_Lw_law_1320 : decode b_Lw_law 1320 = .ok (.iadd, 1) := by decide +kernel
theorem d_Lw_law_1321 : decode b_Lw_law 1321 = .ok (.iaload, 1) := by decide +kernel
theorem d_Lw_law_1322 : decode b_Lw_law 1322 = .ok (.aload_n 0, 1) := by decide +kernel
theorem d_Lw_law_1323 : decode b_Lw_law 1323 = .ok (.iload_n 3, 1) := by decide +kernel
theorem d_Lw_law_1324 : decode b_Lw_law 1324 = .ok (.iconst 2, 1) := by decide +kernel
theorem d_Lw_law_1325 : decode b_Lw_law 1325 = .ok (.iadd, 1) := by decide +kernel
theorem d_Lw_law_1326 : decode b_Lw_law 1326 = .ok (.iaload, 1) := by decide +kernel
theorem d_Lw_law_1327 : decode b_Lw_law 1327 = .ok (.aload_n 0, 1) := by decide +kernel
theorem d_Lw_law_1328 : decode b_Lw_law 1328 = .ok (.iload_n 3, 1) := by decide +kernel
theorem d_Lw_law_1329 : decode b_Lw_law 1329 = .ok (.iconst 3, 1) := by decide +kernel
theorem d_Lw_law_1330 : decode b_Lw_law 1330 = .ok (.iadd, 1) := by decide +kernel
theorem d_Lw_law_1331 : decode b_Lw_law 1331 = .ok (.iaload, 1) := by decide +kernel
theorem d_Lw_law_1332 : decode b_Lw_law 1332 = .ok (.invokevirtual 142, 3) := by decide +kernel
theorem d_Lw_law_1335 : decode b_Lw_law 1335 = .ok (.if_icmp .eq (363), 3) := by decide +kernel
theorem d_Lw_law_1338 : decode b_Lw_law 1338 = .ok (.iconst 0, 1) := by decide +kernel
theorem d_Lw_law_1339 : decode b_Lw_law 1339 = .ok (.ireturn, 1) := by decide +kernel
theorem d_Lw_law_1340 : decode b_Lw_law 1340 = .ok (.aload_n 1, 1) := by decide +kernel
theorem d_Lw_law_1341 : decode b_Lw_law 1341 = .ok (.aload_n 0, 1) := by decide +kernel
theorem d_Lw_law_1342 : decode b_Lw_law 1342 = .ok (.iload_n 3, 1) := by decide +kernel
theorem d_Lw_law_1343 : decode b_Lw_law 1343 = .ok (.iconst 1, 1) := by decide +kernel
theorem d_Lw_law_1344 : decode b_Lw_law 1344 = .ok (.iadd, 1) := by decide +kernel
theorem d_Lw_law_1345 : decode b_Lw_law 1345 = .ok (.iaload, 1) := by decide +kernel
theorem d_Lw_law_1346 : decode b_Lw_law 1346 = .ok (.aload_n 0, 1) := by decide +kernel
theorem d_Lw_law_1347 : decode b_Lw_law 1347 = .ok (.iload_n 3, 1) := by decide +kernel
theorem d_Lw_law_1348 : decode b_Lw_law 1348 = .ok (.iconst 2, 1) := by decide +kernel
theorem d_Lw_law_1349 : decode b_Lw_law 1349 = .ok (.iadd, 1) := by decide +kernel
theorem d_Lw_law_1350 : decode b_Lw_law 1350 = .ok (.iaload, 1) := by decide +kernel
theorem d_Lw_law_1351 : decode b_Lw_law 1351 = .ok (.aload_n 0, 1) := by decide +kernel
theorem d_Lw_law_1352 : decode b_Lw_law 1352 = .ok (.iload_n 3, 1) := by decide +kernel
theorem d_Lw_law_1353 : decode b_Lw_law 1353 = .ok (.iconst 3, 1) := by decide +kernel
theorem d_Lw_law_1354 : decode b_Lw_law 1354 = .ok (.iadd, 1) := by decide +kernel
theorem d_Lw_law_1355 : decode b_Lw_law 1355 = .ok (.iaload, 1) := by decide +kernel
theorem d_Lw_law_1356 : decode b_Lw_law 1356 = .ok (.aload_n 0, 1) := by decide +kernel
theorem d_Lw_law_1357 : decode b_Lw_law 1357 = .ok (.iload_n 3, 1) := by decide +kernel
theorem d_Lw_law_1358 : decode b_Lw_law 1358 = .ok (.iconst 4, 1) := by decide +kernel
theorem d_Lw_law_1359 : decode b_Lw_law 1359 = .ok (.iadd, 1) := by decide +kernel
theorem d_Lw_law_1360 : decode b_Lw_law 1360 = .ok (.iaload, 1) := by decide +kernel
theorem d_Lw_law_1361 : decode b_Lw_law 1361 = .ok (.invokevirtual 143, 3) := by decide +kernel
theorem d_Lw_law_1364 : decode b_Lw_law 1364 = .ok (.aload_n 2, 1) := by decide +kernel
theorem d_Lw_law_1365 : decode b_Lw_law 1365 = .ok (.aload_n 0, 1) := by decide +kernel
theorem d_Lw_law_1366 : decode b_Lw_law 1366 = .ok (.iload_n 3, 1) := by decide +kernel
theorem d_Lw_law_1367 : decode b_Lw_law 1367 = .ok (.iconst 1, 1) := by decide +kernel
theorem d_Lw_law_1368 : decode b_Lw_law 1368 = .ok (.iadd, 1) := by decide +kernel
theorem d_Lw_law_1369 : decode b_Lw_law 1369 = .ok (.iaload, 1) := by decide +kernel
theorem d_Lw_law_1370 : decode b_Lw_law 1370 = .ok (.aload_n 0, 1) := by decide +kernel
theorem d_Lw_law_1371 : decode b_Lw_law 1371 = .ok (.iload_n 3, 1) := by decide +kernel
theorem d_Lw_law_1372 : decode b_Lw_law 1372 = .ok (.iconst 2, 1) := by decide +kernel
theorem d_Lw_law_1373 : decode b_Lw_law 1373 = .ok (.iadd, 1) := by decide +kernel
theorem d_Lw_law_1374 : decode b_Lw_law 1374 = .ok (.iaload, 1) := by decide +kernel
theorem d_Lw_law_1375 : decode b_Lw_law 1375 = .ok (.aload_n 0, 1) := by decide +kernel
theorem d_Lw_law_1376 : decode b_Lw_law 1376 = .ok (.iload_n 3, 1) := by decide +kernel
theorem d_Lw_law_1377 : decode b_Lw_law 1377 = .ok (.iconst 3, 1) := by decide +kernel
theorem d_Lw_law_1378 : decode b_Lw_law 1378 = .ok (.iadd, 1) := by decide +kernel
theorem d_Lw_law_1379 : decode b_Lw_law 1379 = .ok (.iaload, 1) := by decide +kernel
theorem d_Lw_law_1380 : decode b_Lw_law 1380 = .ok (.aload_n 0, 1) := by decide +kernel
theorem d_Lw_law_1381 : decode b_Lw_law 1381 = .ok (.iload_n 3, 1) := by decide +kernel
theorem d_Lw_law_1382 : decode b_Lw_law 1382 = .ok (.iconst 4, 1) := by decide +kernel
theorem d_Lw_law_1383 : decode b_Lw_law 1383 = .ok (.iadd, 1) := by decide +kernel
theorem d_Lw_law_1384 : decode b_Lw_law 1384 = .ok (.iaload, 1) := by decide +kernel
theorem d_Lw_law_1385 : decode b_Lw_law 1385 = .ok (.invokevirtual 146, 3) := by decide +kernel
theorem d_Lw_law_1388 : decode b_Lw_law 1388 = .ok (.if_icmp .eq (310), 3) := by decide +kernel
theorem d_Lw_law_1391 : decode b_Lw_law 1391 = .ok (.iconst 0, 1) := by decide +kernel
theorem d_Lw_law_1392 : decode b_Lw_law 1392 = .ok (.ireturn, 1) := by decide +kernel
theorem d_Lw_law_1393 : decode b_Lw_law 1393 = .ok (.aload_n 1, 1) := by decide +kernel
theorem d_Lw_law_1394 : decode b_Lw_law 1394 = .ok (.aload_n 0, 1) := by decide +kernel
theorem d_Lw_law_1395 : decode b_Lw_law 1395 = .ok (.iload_n 3, 1) := by decide +kernel
theorem d_Lw_law_1396 : decode b_Lw_law 1396 = .ok (.iconst 1, 1) := by decide +kernel
theorem d_Lw_law_1397 : decode b_Lw_law 1397 = .ok (.iadd, 1) := by decide +kernel
theorem d_Lw_law_1398 : decode b_Lw_law 1398 = .ok (.iaload, 1) := by decide +kernel
theorem d_Lw_law_1399 : decode b_Lw_law 1399 = .ok (.aload_n 0, 1) := by decide +kernel
theorem d_Lw_law_1400 : decode b_Lw_law 1400 = .ok (.iload_n 3, 1) := by decide +kernel
theorem d_Lw_law_1401 : decode b_Lw_law 1401 = .ok (.iconst 2, 1) := by decide +kernel
theorem d_Lw_law_1402 : decode b_Lw_law 1402 = .ok (.iadd, 1) := by decide +kernel
theorem d_Lw_law_1403 : decode b_Lw_law 1403 = .ok (.iaload, 1) := by decide +kernel
theorem d_Lw_law_1404 : decode b_Lw_law 1404 = .ok (.aload_n 0, 1) := by decide +kernel
theorem d_Lw_law_1405 : decode b_Lw_law 1405 = .ok (.iload_n 3, 1) := by decide +kernel
theorem d_Lw_law_1406 : decode b_Lw_law 1406 = .ok (.iconst 3, 1) := by decide +kernel
theorem d_Lw_law_1407 : decode b_Lw_law 1407 = .ok (.iadd, 1) := by decide +kernel
theorem d_Lw_law_1408 : decode b_Lw_law 1408 = .ok (.iaload, 1) := by decide +kernel
theorem d_Lw_law_1409 : decode b_Lw_law 1409 = .ok (.invokevirtual 147, 3) := by decide +kernel
theorem d_Lw_law_1412 : decode b_Lw_law 1412 = .ok (.aload_n 2, 1) := by decide +kernel
theorem d_Lw_law_1413 : decode b_Lw_law 1413 = .ok (.aload_n 0, 1) := by decide +kernel
theorem d_Lw_law_1414 : decode b_Lw_law 1414 = .ok (.iload_n 3, 1) := by decide +kernel
theorem d_Lw_law_1415 : decode b_Lw_law 1415 = .ok (.iconst 1, 1) := by decide +kernel
theorem d_Lw_law_1416 : decode b_Lw_law 1416 = .ok (.iadd, 1) := by decide +kernel
theorem d_Lw_law_1417 : decode b_Lw_law 1417 = .ok (.iaload, 1) := by decide +kernel
theorem d_Lw_law_1418 : decode b_Lw_law 1418 = .ok (.aload_n 0, 1) := by decide +kernel
theorem d_Lw_law_1419 : decode b_Lw_law 1419 = .ok (.iload_n 3, 1) := by decide +kernel
theorem d_Lw_law_1420 : decode b_Lw_law 1420 = .ok (.iconst 2, 1) := by decide +kernel
theorem d_Lw_law_1421 : decode b_Lw_law 1421 = .ok (.iadd, 1) := by decide +kernel
theorem d_Lw_law_1422 : decode b_Lw_law 1422 = .ok (.iaload, 1) := by decide +kernel
theorem d_Lw_law_1423 : decode b_Lw_law 1423 = .ok (.aload_n 0, 1) := by decide +kernel
theorem d_Lw_law_1424 : decode b_Lw_law 1424 = .ok (.iload_n 3, 1) := by decide +kernel
theorem d_Lw_law_1425 : decode b_Lw_law 1425 = .ok (.iconst 3, 1) := by decide +kernel
theorem d_Lw_law_1426 : decode b_Lw_law 1426 = .ok (.iadd, 1) := by decide +kernel
theorem d_Lw_law_1427 : decode b_Lw_law 1427 = .ok (.iaload, 1) := by decide +kernel
theorem d_Lw_law_1428 : decode b_Lw_law 1428 = .ok (.invokevirtual 150, 3) := by decide +kernel
theorem d_Lw_law_1431 : decode b_Lw_law 1431 = .ok (.if_icmp .eq (267), 3) := by decide +kernel
theorem d_Lw_law_1434 : decode b_Lw_law 1434 = .ok (.iconst 0, 1) := by decide +kernel
theorem d_Lw_law_1435 : decode b_Lw_law 1435 = .ok (.ireturn, 1) := by decide +kernel
theorem d_Lw_law_1436 : decode b_Lw_law 1436 = .ok (.aload_n 1, 1) := by decide +kernel
theorem d_Lw_law_1437 : decode b_Lw_law 1437 = .ok (.aload_n 0, 1) := by decide +kernel
theorem d_Lw_law_1438 : decode b_Lw_law 1438 = .ok (.iload_n 3, 1) := by decide +kernel
theorem d_Lw_law_1439 : decode b_Lw_law 1439 = .ok (.iconst 1, 1) := by decide +kernel
theorem d_Lw_law_1440 : decode b_Lw_law 1440 = .ok (.iadd, 1) := by decide +kernel
theorem d_Lw_law_1441 : decode b_Lw_law 1441 = .ok (.iaload, 1) := by decide +kernel
theorem d_Lw_law_1442 : decode b_Lw_law 1442 = .ok (.aload_n 0, 1) := by decide +kernel
theorem d_Lw_law_1443 : decode b_Lw_law 1443 = .ok (.iload_n 3, 1) := by decide +kernel
theorem d_Lw_law_1444 : decode b_Lw_law 1444 = .ok (.iconst 2, 1) := by decide +kernel
theorem d_Lw_law_1445 : decode b_Lw_law 1445 = .ok (.iadd, 1) := by decide +kernel
theorem d_Lw_law_1446 : decode b_Lw_law 1446 = .ok (.iaload, 1) := by decide +kernel
theorem d_Lw_law_1447 : decode b_Lw_law 1447 = .ok (.invokevirtual 151, 3) := by decide +kernel
theorem d_Lw_law_1450 : decode b_Lw_law 1450 = .ok (.aload_n 2, 1) := by decide +kernel
theorem d_Lw_law_1451 : decode b_Lw_law 1451 = .ok (.aload_n 0, 1) := by decide +kernel
theorem d_Lw_law_1452 : decode b_Lw_law 1452 = .ok (.iload_n 3, 1) := by decide +kernel
theorem d_Lw_law_1453 : decode b_Lw_law 1453 = .ok (.iconst 1, 1) := by decide +kernel
theorem d_Lw_law_1454 : decode b_Lw_law 1454 = .ok (.iadd, 1) := by decide +kernel
theorem d_Lw_law_1455 : decode b_Lw_law 1455 = .ok (.iaload, 1) := by decide +kernel
theorem d_Lw_law_1456 : decode b_Lw_law 1456 = .ok (.aload_n 0, 1) := by decide +kernel
theorem d_Lw_law_1457 : decode b_Lw_law 1457 = .ok (.iload_n 3, 1) := by decide +kernel
theorem d_Lw_law_1458 : decode b_Lw_law 1458 = .ok (.iconst 2, 1) := by decide +kernel
theorem d_Lw_law_1459 : decode b_Lw_law 1459 = .ok (.iadd, 1) := by decide +kernel
theorem d_Lw_law_1460 : decode b_Lw_law 1460 = .ok (.iaload, 1) := by decide +kernel
theorem d_Lw_law_1461 : decode b_Lw_law 1461 = .ok (.invokevirtual 154, 3) := by decide +kernel
theorem d_Lw_law_1464 : decode b_Lw_law 1464 = .ok (.if_icmp .eq (234), 3) := by decide +kernel
theorem d_Lw_law_1467 : decode b_Lw_law 1467 = .ok (.iconst 0, 1) := by decide +kernel
theorem d_Lw_law_1468 : decode b_Lw_law 1468 = .ok (.ireturn, 1) := by decide +kernel
theorem d_Lw_law_1469 : decode b_Lw_law 1469 = .ok (.aload_n 1, 1) := by decide +kernel
theorem d_Lw_law_1470 : decode b_Lw_law 1470 = .ok (.aload_n 0, 1) := by decide +kernel
theorem d_Lw_law_1471 : decode b_Lw_law 1471 = .ok (.iload_n 3, 1) := by decide +kernel
theorem d_Lw_law_1472 : decode b_Lw_law 1472 = .ok (.iconst 1, 1) := by decide +kernel
theorem d_Lw_law_1473 : decode b_Lw_law 1473 = .ok (.iadd, 1) := by decide +kernel
theorem d_Lw_law_1474 : decode b_Lw_law 1474 = .ok (.iaload, 1) := by decide +kernel
theorem d_Lw_law_1475 : decode b_Lw_law 1475 = .ok (.aload_n 0, 1) := by decide +kernel
theorem d_Lw_law_1476 : decode b_Lw_law 1476 = .ok (.iload_n 3, 1) := by decide +kernel
theorem d_Lw_law_1477 : decode b_Lw_law 1477 = .ok (.iconst 2, 1) := by decide +kernel
theorem d_Lw_law_1478 : decode b_Lw_law 1478 = .ok (.iadd, 1) := by decide +kernel
theorem d_Lw_law_1479 : decode b_Lw_law 1479 = .ok (.iaload, 1) := by decide +kernel
theorem d_Lw_law_1480 : decode b_Lw_law 1480 = .ok (.aload_n 0, 1) := by decide +kernel
theorem d_Lw_law_1481 : decode b_Lw_law 1481 = .ok (.iload_n 3, 1) := by decide +kernel
theorem d_Lw_law_1482 : decode b_Lw_law 1482 = .ok (.iconst 3, 1) := by decide +kernel
theorem d_Lw_law_1483 : decode b_Lw_law 1483 = .ok (.iadd, 1) := by decide +kernel
theorem d_Lw_law_1484 : decode b_Lw_law 1484 = .ok (.iaload, 1) := by decide +kernel
theorem d_Lw_law_1485 : decode b_Lw_law 1485 = .ok (.aload_n 0, 1) := by decide +kernel
theorem d_Lw_law_1486 : decode b_Lw_law 1486 = .ok (.iload_n 3, 1) := by decide +kernel
theorem d_Lw_law_1487 : decode b_Lw_law 1487 = .ok (.iconst 4, 1) := by decide +kernel
theorem d_Lw_law_1488 : decode b_Lw_law 1488 = .ok (.iadd, 1) := by decide +kernel
theorem d_Lw_law_1489 : decode b_Lw_law 1489 = .ok (.iaload, 1) := by decide +kernel
theorem d_Lw_law_1490 : decode b_Lw_law 1490 = .ok (.invokevirtual 155, 3) := by decide +kernel
theorem d_Lw_law_1493 : decode b_Lw_law 1493 = .ok (.aload_n 2, 1) := by decide +kernel
theorem d_Lw_law_1494 : decode b_Lw_law 1494 = .ok (.aload_n 0, 1) := by decide +kernel
theorem d_Lw_law_1495 : decode b_Lw_law 1495 = .ok (.iload_n 3, 1) := by decide +kernel
theorem d_Lw_law_1496 : decode b_Lw_law 1496 = .ok (.iconst 1, 1) := by decide +kernel
theorem d_Lw_law_1497 : decode b_Lw_law 1497 = .ok (.iadd, 1) := by decide +kernel
theorem d_Lw_law_1498 : decode b_Lw_law 1498 = .ok (.iaload, 1) := by decide +kernel
theorem d_Lw_law_1499 : decode b_Lw_law 1499 = .ok (.aload_n 0, 1) := by decide +kernel
theorem d_Lw_law_1500 : decode b_Lw_law 1500 = .ok (.iload_n 3, 1) := by decide +kernel
theorem d_Lw_law_1501 : decode b_Lw_law 1501 = .ok (.iconst 2, 1) := by decide +kernel
theorem d_Lw_law_1502 : decode b_Lw_law 1502 = .ok (.iadd, 1) := by decide +kernel
theorem d_Lw_law_1503 : decode b_Lw_law 1503 = .ok (.iaload, 1) := by decide +kernel
theorem d_Lw_law_1504 : decode b_Lw_law 1504 = .ok (.aload_n 0, 1) := by decide +kernel
theorem d_Lw_law_1505 : decode b_Lw_law 1505 = .ok (.iload_n 3, 1) := by decide +kernel
theorem d_Lw_law_1506 : decode b_Lw_law 1506 = .ok (.iconst 3, 1) := by decide +kernel
theorem d_Lw_law_1507 : decode b_Lw_law 1507 = .ok (.iadd, 1) := by decide +kernel
theorem d_Lw_law_1508 : decode b_Lw_law 1508 = .ok (.iaload, 1) := by decide +kernel
theorem d_Lw_law_1509 : decode b_Lw_law 1509 = .ok (.aload_n 0, 1) := by decide +kernel
theorem d_Lw_law_1510 : decode b_Lw_law 1510 = .ok (.iload_n 3, 1) := by decide +kernel
theorem d_Lw_law_1511 : decode b_Lw_law 1511 = .ok (.iconst 4, 1) := by decide +kernel
theorem d_Lw_law_1512 : decode b_Lw_law 1512 = .ok (.iadd, 1) := by decide +kernel
theorem d_Lw_law_1513 : decode b_Lw_law 1513 = .ok (.iaload, 1) := by decide +kernel
theorem d_Lw_law_1514 : decode b_Lw_law 1514 = .ok (.invokevirtual 158, 3) := by decide +kernel
theorem d_Lw_law_1517 : decode b_Lw_law 1517 = .ok (.if_icmp .eq (181), 3) := by decide +kernel
theorem d_Lw_law_1520 : decode b_Lw_law 1520 = .ok (.iconst 0, 1) := by decide +kernel
theorem d_Lw_law_1521 : decode b_Lw_law 1521 = .ok (.ireturn, 1) := by decide +kernel
theorem d_Lw_law_1522 : decode b_Lw_law 1522 = .ok (.aload_n 1, 1) := by decide +kernel
theorem d_Lw_law_1523 : decode b_Lw_law 1523 = .ok (.aload_n 0, 1) := by decide +kernel
theorem d_Lw_law_1524 : decode b_Lw_law 1524 = .ok (.iload_n 3, 1) := by decide +kernel
theorem d_Lw_law_1525 : decode b_Lw_law 1525 = .ok (.iconst 1, 1) := by decide +kernel
theorem d_Lw_law_1526 : decode b_Lw_law 1526 = .ok (.iadd, 1) := by decide +kernel
theorem d_Lw_law_1527 : decode b_Lw_law 1527 = .ok (.iaload, 1) := by decide +kernel
theorem d_Lw_law_1528 : decode b_Lw_law 1528 = .ok (.aload_n 0, 1) := by decide +kernel
theorem d_Lw_law_1529 : decode b_Lw_law 1529 = .ok (.iload_n 3, 1) := by decide +kernel
theorem d_Lw_law_1530 : decode b_Lw_law 1530 = .ok (.iconst 2, 1) := by decide +kernel
theorem d_Lw_law_1531 : decode b_Lw_law 1531 = .ok (.iadd, 1) := by decide +kernel
theorem d_Lw_law_1532 : decode b_Lw_law 1532 = .ok (.iaload, 1) := by decide +kernel
theorem d_Lw_law_1533 : decode b_Lw_law 1533 = .ok (.aload_n 0, 1) := by decide +kernel
theorem d_Lw_law_1534 : decode b_Lw_law 1534 = .ok (.iload_n 3, 1) := by decide +kernel
theorem d_Lw_law_1535 : decode b_Lw_law 1535 = .ok (.iconst 3, 1) := by decide +kernel
theorem d_Lw_law_1536 : decode b_Lw_law 1536 = .ok (.iadd, 1) := by decide +kernel
theorem d_Lw_law_1537 : decode b_Lw_law 1537 = .ok (.iaload, 1) := by decide +kernel
theorem d_Lw_law_1538 : decode b_Lw_law 1538 = .ok (.aload_n 0, 1) := by decide +kernel
theorem d_Lw_law_1539 : decode b_Lw_law 1539 = .ok (.iload_n 3, 1) := by decide +kernel
theorem d_Lw_law_1540 : decode b_Lw_law 1540 = .ok (.iconst 4, 1) := by decide +kernel
theorem d_Lw_law_1541 : decode b_Lw_law 1541 = .ok (.iadd, 1) := by decide +kernel
theorem d_Lw_law_1542 : decode b_Lw_law 1542 = .ok (.iaload, 1) := by decide +kernel
theorem d_Lw_law_1543 : decode b_Lw_law 1543 = .ok (.invokevirtual 159, 3) := by decide +kernel
theorem d_Lw_law_1546 : decode b_Lw_law 1546 = .ok (.aload_n 2, 1) := by decide +kernel
theorem d_Lw_law_1547 : decode b_Lw_law 1547 = .ok (.aload_n 0, 1) := by decide +kernel
theorem d_Lw_law_1548 : decode b_Lw_law 1548 = .ok (.iload_n 3, 1) := by decide +kernel
theorem d_Lw_law_1549 : decode b_Lw_law 1549 = .ok (.iconst 1, 1) := by decide +kernel
theorem d_Lw_law_1550 : decode b_Lw_law 1550 = .ok (.iadd, 1) := by decide +kernel
theorem d_Lw_law_1551 : decode b_Lw_law 1551 = .ok (.iaload, 1) := by decide +kernel
theorem d_Lw_law_1552 : decode b_Lw_law 1552 = .ok (.aload_n 0, 1) := by decide +kernel
theorem d_Lw_law_1553 : decode b_Lw_law 1553 = .ok (.iload_n 3, 1) := by decide +kernel
theorem d_Lw_law_1554 : decode b_Lw_law 1554 = .ok (.iconst 2, 1) := by decide +kernel
theorem d_Lw_law_1555 : decode b_Lw_law 1555 = .ok (.iadd, 1) := by decide +kernel
theorem d_Lw_law_1556 : decode b_Lw_law 1556 = .ok (.iaload, 1) := by decide +kernel
theorem d_Lw_law_1557 : decode b_Lw_law 1557 = .ok (.aload_n 0, 1) := by decide +kernel
theorem d_Lw_law_1558 : decode b_Lw_law 1558 = .ok (.iload_n 3, 1) := by decide +kernel
theorem d_Lw_law_1559 : decode b_Lw_law 1559 = .ok (.iconst 3, 1) := by decide +kernel
theorem d_Lw_law_1560 : decode b_Lw_law 1560 = .ok (.iadd, 1) := by decide +kernel
theorem d_Lw_law_1561 : decode b_Lw_law 1561 = .ok (.iaload, 1) := by decide +kernel
theorem d_Lw_law_1562 : decode b_Lw_law 1562 = .ok (.aload_n 0, 1) := by decide +kernel
theorem d_Lw_law_1563 : decode b_Lw_law 1563 = .ok (.iload_n 3, 1) := by decide +kernel
theorem d_Lw_law_1564 : decode b_Lw_law 1564 = .ok (.iconst 4, 1) := by decide +kernel
theorem d_Lw_law_1565 : decode b_Lw_law 1565 = .ok (.iadd, 1) := by decide +kernel
theorem d_Lw_law_1566 : decode b_Lw_law 1566 = .ok (.iaload, 1) := by decide +kernel
theorem d_Lw_law_1567 : decode b_Lw_law 1567 = .ok (.invokevirtual 162, 3) := by decide +kernel
theorem d_Lw_law_1570 : decode b_Lw_law 1570 = .ok (.if_icmp .eq (128), 3) := by decide +kernel
theorem d_Lw_law_1573 : decode b_Lw_law 1573 = .ok (.iconst 0, 1) := by decide +kernel
theorem d_Lw_law_1574 : decode b_Lw_law 1574 = .ok (.ireturn, 1) := by decide +kernel
theorem d_Lw_law_1575 : decode b_Lw_law 1575 = .ok (.aload_n 1, 1) := by decide +kernel
theorem d_Lw_law_1576 : decode b_Lw_law 1576 = .ok (.aload_n 0, 1) := by decide +kernel
theorem d_Lw_law_1577 : decode b_Lw_law 1577 = .ok (.iload_n 3, 1) := by decide +kernel
theorem d_Lw_law_1578 : decode b_Lw_law 1578 = .ok (.iconst 1, 1) := by decide +kernel
theorem d_Lw_law_1579 : decode b_Lw_law 1579 = .ok (.iadd, 1) := by decide +kernel
theorem d_Lw_law_1580 : decode b_Lw_law 1580 = .ok (.iaload, 1) := by decide +kernel
theorem d_Lw_law_1581 : decode b_Lw_law 1581 = .ok (.aload_n 0, 1) := by decide +kernel
theorem d_Lw_law_1582 : decode b_Lw_law 1582 = .ok (.iload_n 3, 1) := by decide +kernel
theorem d_Lw_law_1583 : decode b_Lw_law 1583 = .ok (.iconst 2, 1) := by decide +kernel
theorem d_Lw_law_1584 : decode b_Lw_law 1584 = .ok (.iadd, 1) := by decide +kernel
theorem d_Lw_law_1585 : decode b_Lw_law 1585 = .ok (.iaload, 1) := by decide +kernel
theorem d_Lw_law_1586 : decode b_Lw_law 1586 = .ok (.aload_n 0, 1) := by decide +kernel
theorem d_Lw_law_1587 : decode b_Lw_law 1587 = .ok (.iload_n 3, 1) := by decide +kernel
theorem d_Lw_law_1588 : decode b_Lw_law 1588 = .ok (.iconst 3, 1) := by decide +kernel
theorem d_Lw_law_1589 : decode b_Lw_law 1589 = .ok (.iadd, 1) := by decide +kernel
theorem d_Lw_law_1590 : decode b_Lw_law 1590 = .ok (.iaload, 1) := by decide +kernel
theorem d_Lw_law_1591 : decode b_Lw_law 1591 = .ok (.invokevirtual 163, 3) := by decide +kernel
theorem d_Lw_law_1594 : decode b_Lw_law 1594 = .ok (.aload_n 2, 1) := by decide +kernel
theorem d_Lw_law_1595 : decode b_Lw_law 1595 = .ok (.aload_n 0, 1) := by decide +kernel
theorem d_Lw_law_1596 : decode b_Lw_law 1596 = .ok (.iload_n 3, 1) := by decide +kernel
theorem d_Lw_law_1597 : decode b_Lw_law 1597 = .ok (.iconst 1, 1) := by decide +kernel
theorem d_Lw_law_1598 : decode b_Lw_law 1598 = .ok (.iadd, 1) := by decide +kernel
theorem d_Lw_law_1599 : decode b_Lw_law 1599 = .ok (.iaload, 1) := by decide +kernel
theorem d_Lw_law_1600 : decode b_Lw_law 1600 = .ok (.aload_n 0, 1) := by decide +kernel
theorem d_Lw_law_1601 : decode b_Lw_law 1601 = .ok (.iload_n 3, 1) := by decide +kernel
theorem d_Lw_law_1602 : decode b_Lw_law 1602 = .ok (.iconst 2, 1) := by decide +kernel
theorem d_Lw_law_1603 : decode b_Lw_law 1603 = .ok (.iadd, 1) := by decide +kernel
theorem d_Lw_law_1604 : decode b_Lw_law 1604 = .ok (.iaload, 1) := by decide +kernel
theorem d_Lw_law_1605 : decode b_Lw_law 1605 = .ok (.aload_n 0, 1) := by decide +kernel
theorem d_Lw_law_1606 : decode b_Lw_law 1606 = .ok (.iload_n 3, 1) := by decide +kernel
theorem d_Lw_law_1607 : decode b_Lw_law 1607 = .ok (.iconst 3, 1) := by decide +kernel
theorem d_Lw_law_1608 : decode b_Lw_law 1608 = .ok (.iadd, 1) := by decide +kernel
theorem d_Lw_law_1609 : decode b_Lw_law 1609 = .ok (.iaload, 1) := by decide +kernel
theorem d_Lw_law_1610 : decode b_Lw_law 1610 = .ok (.invokevirtual 166, 3) := by decide +kernel
theorem d_Lw_law_1613 : decode b_Lw_law 1613 = .ok (.if_icmp .eq (85), 3) := by decide +kernel
theorem d_Lw_law_1616 : decode b_Lw_law 1616 = .ok (.iconst 0, 1) := by decide +kernel
theorem d_Lw_law_1617 : decode b_Lw_law 1617 = .ok (.ireturn, 1) := by decide +kernel
theorem d_Lw_law_1618 : decode b_Lw_law 1618 = .ok (.aload_n 1, 1) := by decide +kernel
theorem d_Lw_law_1619 : decode b_Lw_law 1619 = .ok (.aload_n 0, 1) := by decide +kernel
theorem d_Lw_law_1620 : decode b_Lw_law 1620 = .ok (.iload_n 3, 1) := by decide +kernel
theorem d_Lw_law_1621 : decode b_Lw_law 1621 = .ok (.iconst 1, 1) := by decide +kernel
theorem d_Lw_law_1622 : decode b_Lw_law 1622 = .ok (.iadd, 1) := by decide +kernel
theorem d_Lw_law_1623 : decode b_Lw_law 1623 = .ok (.iaload, 1) := by decide +kernel
theorem d_Lw_law_1624 : decode b_Lw_law 1624 = .ok (.aload_n 0, 1) := by decide +kernel
theorem d_Lw_law_1625 : decode b_Lw_law 1625 = .ok (.iload_n 3, 1) := by decide +kernel
theorem d_Lw_law_1626 : decode b_Lw_law 1626 = .ok (.iconst 2, 1) := by decide +kernel
theorem d_Lw_law_1627 : decode b_Lw_law 1627 = .ok (.iadd, 1) := by decide +kernel
theorem d_Lw_law_1628 : decode b_Lw_law 1628 = .ok (.iaload, 1) := by decide +kernel
theorem d_Lw_law_1629 : decode b_Lw_law 1629 = .ok (.aload_n 0, 1) := by decide +kernel
theorem d_Lw_law_1630 : decode b_Lw_law 1630 = .ok (.iload_n 3, 1) := by decide +kernel
theorem d_Lw_law_1631 : decode b_Lw_law 1631 = .ok (.iconst 3, 1) := by decide +kernel
theorem d_Lw_law_1632 : decode b_Lw_law 1632 = .ok (.iadd, 1) := by decide +kernel
theorem d_Lw_law_1633 : decode b_Lw_law 1633 = .ok (.iaload, 1) := by decide +kernel
theorem d_Lw_law_1634 : decode b_Lw_law 1634 = .ok (.invokevirtual 167, 3) := by decide +kernel
theorem d_Lw_law_1637 : decode b_Lw_law 1637 = .ok (.aload_n 2, 1) := by decide +kernel
theorem d_Lw_law_1638 : decode b_Lw_law 1638 = .ok (.aload_n 0, 1) := by decide +kernel
theorem d_Lw_law_1639 : decode b_Lw_law 1639 = .ok (.iload_n 3, 1) := by decide +kernel
theorem d_Lw_law_1640 : decode b_Lw_law 1640 = .ok (.iconst 1, 1) := by decide +kernel
theorem d_Lw_law_1641 : decode b_Lw_law 1641 = .ok (.iadd, 1) := by decide +kernel
theorem d_Lw_law_1642 : decode b_Lw_law 1642 = .ok (.iaload, 1) := by decide +kernel
theorem d_Lw_law_1643 : decode b_Lw_law 1643 = .ok (.aload_n 0, 1) := by decide +kernel
theorem d_Lw_law_1644 : decode b_Lw_law 1644 = .ok (.iload_n 3, 1) := by decide +kernel
theorem d_Lw_law_1645 : decode b_Lw_law 1645 = .ok (.iconst 2, 1) := by decide +kernel
theorem d_Lw_law_1646 : decode b_Lw_law 1646 = .ok (.iadd, 1) := by decide +kernel
theorem d_Lw_law_1647 : decode b_Lw_law 1647 = .ok (.iaload, 1) := by decide +kernel
theorem d_Lw_law_1648 : decode b_Lw_law 1648 = .ok (.aload_n 0, 1) := by decide +kernel
theorem d_Lw_law_1649 : decode b_Lw_law 1649 = .ok (.iload_n 3, 1) := by decide +kernel
theorem d_Lw_law_1650 : decode b_Lw_law 1650 = .ok (.iconst 3, 1) := by decide +kernel
theorem d_Lw_law_1651 : decode b_Lw_law 1651 = .ok (.iadd, 1) := by decide +kernel
theorem d_Lw_law_1652 : decode b_Lw_law 1652 = .ok (.iaload, 1) := by decide +kernel
theorem d_Lw_law_1653 : decode b_Lw_law 1653 = .ok (.invokevirtual 170, 3) := by decide +kernel
theorem d_Lw_law_1656 : decode b_Lw_law 1656 = .ok (.if_icmp .eq (42), 3) := by decide +kernel
theorem d_Lw_law_1659 : decode b_Lw_law 1659 = .ok (.iconst 0, 1) := by decide +kernel
theorem d_Lw_law_1660 : decode b_Lw_law 1660 = .ok (.ireturn, 1) := by decide +kernel
theorem d_Lw_law_1661 : decode b_Lw_law 1661 = .ok (.aload_n 1, 1) := by decide +kernel
theorem d_Lw_law_1662 : decode b_Lw_law 1662 = .ok (.aload_n 0, 1) := by decide +kernel
theorem d_Lw_law_1663 : decode b_Lw_law 1663 = .ok (.iload_n 3, 1) := by decide +kernel
theorem d_Lw_law_1664 : decode b_Lw_law 1664 = .ok (.iconst 1, 1) := by decide +kernel
theorem d_Lw_law_1665 : decode b_Lw_law 1665 = .ok (.iadd, 1) := by decide +kernel
theorem d_Lw_law_1666 : decode b_Lw_law 1666 = .ok (.iaload, 1) := by decide +kernel
theorem d_Lw_law_1667 : decode b_Lw_law 1667 = .ok (.invokevirtual 171, 3) := by decide +kernel
theorem d_Lw_law_1670 : decode b_Lw_law 1670 = .ok (.aload_n 2, 1) := by decide +kernel
theorem d_Lw_law_1671 : decode b_Lw_law 1671 = .ok (.aload_n 0, 1) := by decide +kernel
theorem d_Lw_law_1672 : decode b_Lw_law 1672 = .ok (.iload_n 3, 1) := by decide +kernel
theorem d_Lw_law_1673 : decode b_Lw_law 1673 = .ok (.iconst 1, 1) := by decide +kernel
theorem d_Lw_law_1674 : decode b_Lw_law 1674 = .ok (.iadd, 1) := by decide +kernel
theorem d_Lw_law_1675 : decode b_Lw_law 1675 = .ok (.iaload, 1) := by decide +kernel
theorem d_Lw_law_1676 : decode b_Lw_law 1676 = .ok (.invokevirtual 174, 3) := by decide +kernel
theorem d_Lw_law_1679 : decode b_Lw_law 1679 = .ok (.if_icmp .eq (19), 3) := by decide +kernel
theorem d_Lw_law_1682 : decode b_Lw_law 1682 = .ok (.iconst 0, 1) := by decide +kernel
theorem d_Lw_law_1683 : decode b_Lw_law 1683 = .ok (.ireturn, 1) := by decide +kernel
theorem d_Lw_law_1684 : decode b_Lw_law 1684 = .ok (.aload_n 1, 1) := by decide +kernel
theorem d_Lw_law_1685 : decode b_Lw_law 1685 = .ok (.invokevirtual 175, 3) := by decide +kernel
theorem d_Lw_law_1688 : decode b_Lw_law 1688 = .ok (.aload_n 2, 1) := by decide +kernel
theorem d_Lw_law_1689 : decode b_Lw_law 1689 = .ok (.invokevirtual 179, 3) := by decide +kernel
theorem d_Lw_law_1692 : decode b_Lw_law 1692 = .ok (.lcmp, 1) := by decide +kernel
theorem d_Lw_law_1693 : decode b_Lw_law 1693 = .ok (.ifCond .eq (5), 3) := by decide +kernel
theorem d_Lw_law_1696 : decode b_Lw_law 1696 = .ok (.iconst 0, 1) := by decide +kernel
theorem d_Lw_law_1697 : decode b_Lw_law 1697 = .ok (.ireturn, 1) := by decide +kernel
theorem d_Lw_law_1698 : decode b_Lw_law 1698 = .ok (.iinc 3 (6), 3) := by decide +kernel
theorem d_Lw_law_1701 : decode b_Lw_law 1701 = .ok (.goto (-1683), 3) := by decide +kernel
theorem d_Lw_law_1704 : decode b_Lw_law 1704 = .ok (.iconst 1, 1) := by decide +kernel
theorem d_Lw_law_1705 : decode b_Lw_law 1705 = .ok (.ireturn, 1) := by decide +kernel
