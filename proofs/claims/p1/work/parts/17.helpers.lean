theorem dL_hedge_0 : decode cL_hedge 0 = .ok (.aload_n 3, 1) := by decide +kernel
theorem dL_hedge_1 : decode cL_hedge 1 = .ok (.iconst 0, 1) := by decide +kernel
theorem dL_hedge_2 : decode cL_hedge 2 = .ok (.aload_n 0, 1) := by decide +kernel
theorem dL_hedge_3 : decode cL_hedge 3 = .ok (.iload_n 1, 1) := by decide +kernel
theorem dL_hedge_4 : decode cL_hedge 4 = .ok (.iload_n 2, 1) := by decide +kernel
theorem dL_hedge_5 : decode cL_hedge 5 = .ok (.invokevirtual 7, 3) := by decide +kernel
theorem dL_hedge_8 : decode cL_hedge 8 = .ok (.i2l, 1) := by decide +kernel
theorem dL_hedge_9 : decode cL_hedge 9 = .ok (.lastore, 1) := by decide +kernel
theorem dL_hedge_10 : decode cL_hedge 10 = .ok (.goto 7, 3) := by decide +kernel
theorem dL_hedge_13 : decode cL_hedge 13 = .ok (.astore 4, 2) := by decide +kernel
theorem dL_hedge_15 : decode cL_hedge 15 = .ok (.iconst 1, 1) := by decide +kernel
theorem dL_hedge_16 : decode cL_hedge 16 = .ok (.ireturn, 1) := by decide +kernel
theorem dL_hedge_17 : decode cL_hedge 17 = .ok (.iconst 0, 1) := by decide +kernel
theorem dL_hedge_18 : decode cL_hedge 18 = .ok (.ireturn, 1) := by decide +kernel
theorem dL_reach_0 : decode cL_reach 0 = .ok (.aload_n 2, 1) := by decide +kernel
theorem dL_reach_1 : decode cL_reach 1 = .ok (.iconst 0, 1) := by decide +kernel
theorem dL_reach_2 : decode cL_reach 2 = .ok (.aload_n 0, 1) := by decide +kernel
theorem dL_reach_3 : decode cL_reach 3 = .ok (.iload_n 1, 1) := by decide +kernel
theorem dL_reach_4 : decode cL_reach 4 = .ok (.invokevirtual 15, 3) := by decide +kernel
theorem dL_reach_7 : decode cL_reach 7 = .ok (.i2l, 1) := by decide +kernel
theorem dL_reach_8 : decode cL_reach 8 = .ok (.lastore, 1) := by decide +kernel
theorem dL_reach_9 : decode cL_reach 9 = .ok (.goto 6, 3) := by decide +kernel
theorem dL_reach_12 : decode cL_reach 12 = .ok (.astore_n 3, 1) := by decide +kernel
theorem dL_reach_13 : decode cL_reach 13 = .ok (.iconst 1, 1) := by decide +kernel
theorem dL_reach_14 : decode cL_reach 14 = .ok (.ireturn, 1) := by decide +kernel
theorem dL_reach_15 : decode cL_reach 15 = .ok (.iconst 0, 1) := by decide +kernel
theorem dL_reach_16 : decode cL_reach 16 = .ok (.ireturn, 1) := by decide +kernel
theorem dL_row_0 : decode cL_row 0 = .ok (.aload_n 2, 1) := by decide +kernel
theorem dL_row_1 : decode cL_row 1 = .ok (.iconst 0, 1) := by decide +kernel
theorem dL_row_2 : decode cL_row 2 = .ok (.aload_n 0, 1) := by decide +kernel
theorem dL_row_3 : decode cL_row 3 = .ok (.iload_n 1, 1) := by decide +kernel
theorem dL_row_4 : decode cL_row 4 = .ok (.invokevirtual 19, 3) := by decide +kernel
theorem dL_row_7 : decode cL_row 7 = .ok (.i2l, 1) := by decide +kernel
theorem dL_row_8 : decode cL_row 8 = .ok (.lastore, 1) := by decide +kernel
theorem dL_row_9 : decode cL_row 9 = .ok (.goto 6, 3) := by decide +kernel
theorem dL_row_12 : decode cL_row 12 = .ok (.astore_n 3, 1) := by decide +kernel
theorem dL_row_13 : decode cL_row 13 = .ok (.iconst 1, 1) := by decide +kernel
theorem dL_row_14 : decode cL_row 14 = .ok (.ireturn, 1) := by decide +kernel
theorem dL_row_15 : decode cL_row 15 = .ok (.iconst 0, 1) := by decide +kernel
theorem dL_row_16 : decode cL_row 16 = .ok (.ireturn, 1) := by decide +kernel
theorem dL_law_0 : decode cL_law 0 = .ok (.new 8, 3) := by decide +kernel
theorem dL_law_3 : decode cL_law 3 = .ok (.dup, 1) := by decide +kernel
theorem dL_law_4 : decode cL_law 4 = .ok (.invokespecial 22, 3) := by decide +kernel
theorem dL_law_7 : decode cL_law 7 = .ok (.astore_n 1, 1) := by decide +kernel
theorem dL_law_8 : decode cL_law 8 = .ok (.new 23, 3) := by decide +kernel
theorem dL_law_11 : decode cL_law 11 = .ok (.dup, 1) := by decide +kernel
theorem dL_law_12 : decode cL_law 12 = .ok (.invokespecial 25, 3) := by decide +kernel
theorem dL_law_15 : decode cL_law 15 = .ok (.astore_n 2, 1) := by decide +kernel
theorem dL_law_16 : decode cL_law 16 = .ok (.iconst 1, 1) := by decide +kernel
theorem dL_law_17 : decode cL_law 17 = .ok (.newarray .long, 2) := by decide +kernel
theorem dL_law_19 : decode cL_law 19 = .ok (.astore_n 3, 1) := by decide +kernel
theorem dL_law_20 : decode cL_law 20 = .ok (.iconst 0, 1) := by decide +kernel
theorem dL_law_21 : decode cL_law 21 = .ok (.istore 4, 2) := by decide +kernel
theorem dL_law_23 : decode cL_law 23 = .ok (.iload 4, 2) := by decide +kernel
theorem dL_law_25 : decode cL_law 25 = .ok (.aload_n 0, 1) := by decide +kernel
theorem dL_law_26 : decode cL_law 26 = .ok (.arraylength, 1) := by decide +kernel
theorem dL_law_27 : decode cL_law 27 = .ok (.iconst 5, 1) := by decide +kernel
theorem dL_law_28 : decode cL_law 28 = .ok (.isub, 1) := by decide +kernel
theorem dL_law_29 : decode cL_law 29 = .ok (.if_icmp .gt 1222, 3) := by decide +kernel
theorem dL_law_32 : decode cL_law 32 = .ok (.aload_n 0, 1) := by decide +kernel
theorem dL_law_33 : decode cL_law 33 = .ok (.iload 4, 2) := by decide +kernel
theorem dL_law_35 : decode cL_law 35 = .ok (.iaload, 1) := by decide +kernel
theorem dL_law_36 : decode cL_law 36 = .ok (.bipush 63, 2) := by decide +kernel
theorem dL_law_38 : decode cL_law 38 = .ok (.iand, 1) := by decide +kernel
theorem dL_law_39 : decode cL_law 39 = .ok (.tableswitch 1206 0 39 #[173, 198, 223, 236, 304, 341, 390, 451, 476, 501, 514, 539, 552, 577, 602, 627, 640, 665, 678, 691, 716, 729, 742, 755, 792, 829, 866, 879, 935, 960, 997, 1010, 1023, 1036, 1049, 1062, 1075, 1100, 1125, 1150], 173) := by decide +kernel
theorem dL_law_212 : decode cL_law 212 = .ok (.aload_n 1, 1) := by decide +kernel
theorem dL_law_213 : decode cL_law 213 = .ok (.aload_n 0, 1) := by decide +kernel
theorem dL_law_214 : decode cL_law 214 = .ok (.iload 4, 2) := by decide +kernel
theorem dL_law_216 : decode cL_law 216 = .ok (.iconst 1, 1) := by decide +kernel
theorem dL_law_217 : decode cL_law 217 = .ok (.iadd, 1) := by decide +kernel
theorem dL_law_218 : decode cL_law 218 = .ok (.iaload, 1) := by decide +kernel
theorem dL_law_219 : decode cL_law 219 = .ok (.invokevirtual 26, 3) := by decide +kernel
theorem dL_law_222 : decode cL_law 222 = .ok (.aload_n 2, 1) := by decide +kernel
theorem dL_law_223 : decode cL_law 223 = .ok (.aload_n 0, 1) := by decide +kernel
theorem dL_law_224 : decode cL_law 224 = .ok (.iload 4, 2) := by decide +kernel
theorem dL_law_226 : decode cL_law 226 = .ok (.iconst 1, 1) := by decide +kernel
theorem dL_law_227 : decode cL_law 227 = .ok (.iadd, 1) := by decide +kernel
theorem dL_law_228 : decode cL_law 228 = .ok (.iaload, 1) := by decide +kernel
theorem dL_law_229 : decode cL_law 229 = .ok (.invokevirtual 29, 3) := by decide +kernel
theorem dL_law_232 : decode cL_law 232 = .ok (.if_icmp .eq 1013, 3) := by decide +kernel
theorem dL_law_235 : decode cL_law 235 = .ok (.iconst 0, 1) := by decide +kernel
theorem dL_law_236 : decode cL_law 236 = .ok (.ireturn, 1) := by decide +kernel
theorem dL_law_237 : decode cL_law 237 = .ok (.aload_n 1, 1) := by decide +kernel
theorem dL_law_238 : decode cL_law 238 = .ok (.aload_n 0, 1) := by decide +kernel
theorem dL_law_239 : decode cL_law 239 = .ok (.iload 4, 2) := by decide +kernel
theorem dL_law_241 : decode cL_law 241 = .ok (.iconst 1, 1) := by decide +kernel
theorem dL_law_242 : decode cL_law 242 = .ok (.iadd, 1) := by decide +kernel
theorem dL_law_243 : decode cL_law 243 = .ok (.iaload, 1) := by decide +kernel
theorem dL_law_244 : decode cL_law 244 = .ok (.invokevirtual 30, 3) := by decide +kernel
theorem dL_law_247 : decode cL_law 247 = .ok (.aload_n 2, 1) := by decide +kernel
theorem dL_law_248 : decode cL_law 248 = .ok (.aload_n 0, 1) := by decide +kernel
theorem dL_law_249 : decode cL_law 249 = .ok (.iload 4, 2) := by decide +kernel
theorem dL_law_251 : decode cL_law 251 = .ok (.iconst 1, 1) := by decide +kernel
theorem dL_law_252 : decode cL_law 252 = .ok (.iadd, 1) := by decide +kernel
theorem dL_law_253 : decode cL_law 253 = .ok (.iaload, 1) := by decide +kernel
theorem dL_law_254 : decode cL_law 254 = .ok (.invokevirtual 34, 3) := by decide +kernel
theorem dL_law_257 : decode cL_law 257 = .ok (.if_icmp .eq 988, 3) := by decide +kernel
theorem dL_law_260 : decode cL_law 260 = .ok (.iconst 0, 1) := by decide +kernel
theorem dL_law_261 : decode cL_law 261 = .ok (.ireturn, 1) := by decide +kernel
theorem dL_law_262 : decode cL_law 262 = .ok (.aload_n 1, 1) := by decide +kernel
theorem dL_law_263 : decode cL_law 263 = .ok (.invokevirtual 35, 3) := by decide +kernel
theorem dL_law_266 : decode cL_law 266 = .ok (.aload_n 2, 1) := by decide +kernel
theorem dL_law_267 : decode cL_law 267 = .ok (.invokevirtual 39, 3) := by decide +kernel
theorem dL_law_270 : decode cL_law 270 = .ok (.if_icmp .eq 975, 3) := by decide +kernel
theorem dL_law_273 : decode cL_law 273 = .ok (.iconst 0, 1) := by decide +kernel
theorem dL_law_274 : decode cL_law 274 = .ok (.ireturn, 1) := by decide +kernel
theorem dL_law_275 : decode cL_law 275 = .ok (.aload_n 1, 1) := by decide +kernel
theorem dL_law_276 : decode cL_law 276 = .ok (.aload_n 0, 1) := by decide +kernel
theorem dL_law_277 : decode cL_law 277 = .ok (.iload 4, 2) := by decide +kernel
theorem dL_law_279 : decode cL_law 279 = .ok (.iconst 1, 1) := by decide +kernel
theorem dL_law_280 : decode cL_law 280 = .ok (.iadd, 1) := by decide +kernel
theorem dL_law_281 : decode cL_law 281 = .ok (.iaload, 1) := by decide +kernel
theorem dL_law_282 : decode cL_law 282 = .ok (.aload_n 0, 1) := by decide +kernel
theorem dL_law_283 : decode cL_law 283 = .ok (.iload 4, 2) := by decide +kernel
theorem dL_law_285 : decode cL_law 285 = .ok (.iconst 2, 1) := by decide +kernel
theorem dL_law_286 : decode cL_law 286 = .ok (.iadd, 1) := by decide +kernel
theorem dL_law_287 : decode cL_law 287 = .ok (.iaload, 1) := by decide +kernel
theorem dL_law_288 : decode cL_law 288 = .ok (.aload_n 3, 1) := by decide +kernel
theorem dL_law_289 : decode cL_law 289 = .ok (.invokestatic 40, 3) := by decide +kernel
theorem dL_law_292 : decode cL_law 292 = .ok (.istore 5, 2) := by decide +kernel
theorem dL_law_294 : decode cL_law 294 = .ok (.aload_n 2, 1) := by decide +kernel
theorem dL_law_295 : decode cL_law 295 = .ok (.aload_n 0, 1) := by decide +kernel
theorem dL_law_296 : decode cL_law 296 = .ok (.iload 4, 2) := by decide +kernel
theorem dL_law_298 : decode cL_law 298 = .ok (.iconst 1, 1) := by decide +kernel
theorem dL_law_299 : decode cL_law 299 = .ok (.iadd, 1) := by decide +kernel
theorem dL_law_300 : decode cL_law 300 = .ok (.iaload, 1) := by decide +kernel
theorem dL_law_301 : decode cL_law 301 = .ok (.aload_n 0, 1) := by decide +kernel
theorem dL_law_302 : decode cL_law 302 = .ok (.iload 4, 2) := by decide +kernel
theorem dL_law_304 : decode cL_law 304 = .ok (.iconst 2, 1) := by decide +kernel
theorem dL_law_305 : decode cL_law 305 = .ok (.iadd, 1) := by decide +kernel
theorem dL_law_306 : decode cL_law 306 = .ok (.iaload, 1) := by decide +kernel
theorem dL_law_307 : decode cL_law 307 = .ok (.invokevirtual 45, 3) := by decide +kernel
theorem dL_law_310 : decode cL_law 310 = .ok (.istore 6, 2) := by decide +kernel
theorem dL_law_312 : decode cL_law 312 = .ok (.aload_n 2, 1) := by decide +kernel
theorem dL_law_313 : decode cL_law 313 = .ok (.invokevirtual 46, 3) := by decide +kernel
theorem dL_law_316 : decode cL_law 316 = .ok (.iload 5, 2) := by decide +kernel
theorem dL_law_318 : decode cL_law 318 = .ok (.if_icmp .eq 5, 3) := by decide +kernel
theorem dL_law_321 : decode cL_law 321 = .ok (.iconst 0, 1) := by decide +kernel
theorem dL_law_322 : decode cL_law 322 = .ok (.ireturn, 1) := by decide +kernel
theorem dL_law_323 : decode cL_law 323 = .ok (.iload 5, 2) := by decide +kernel
theorem dL_law_325 : decode cL_law 325 = .ok (.ifCond .ne 15, 3) := by decide +kernel
theorem dL_law_328 : decode cL_law 328 = .ok (.aload_n 3, 1) := by decide +kernel
theorem dL_law_329 : decode cL_law 329 = .ok (.iconst 0, 1) := by decide +kernel
theorem dL_law_330 : decode cL_law 330 = .ok (.laload, 1) := by decide +kernel
theorem dL_law_331 : decode cL_law 331 = .ok (.iload 6, 2) := by decide +kernel
theorem dL_law_333 : decode cL_law 333 = .ok (.i2l, 1) := by decide +kernel
theorem dL_law_334 : decode cL_law 334 = .ok (.lcmp, 1) := by decide +kernel
theorem dL_law_335 : decode cL_law 335 = .ok (.ifCond .eq 5, 3) := by decide +kernel
theorem dL_law_338 : decode cL_law 338 = .ok (.iconst 0, 1) := by decide +kernel
theorem dL_law_339 : decode cL_law 339 = .ok (.ireturn, 1) := by decide +kernel
theorem dL_law_340 : decode cL_law 340 = .ok (.goto 905, 3) := by decide +kernel
theorem dL_law_343 : decode cL_law 343 = .ok (.aload_n 1, 1) := by decide +kernel
theorem dL_law_344 : decode cL_law 344 = .ok (.aload_n 0, 1) := by decide +kernel
theorem dL_law_345 : decode cL_law 345 = .ok (.iload 4, 2) := by decide +kernel
theorem dL_law_347 : decode cL_law 347 = .ok (.iconst 1, 1) := by decide +kernel
theorem dL_law_348 : decode cL_law 348 = .ok (.iadd, 1) := by decide +kernel
theorem dL_law_349 : decode cL_law 349 = .ok (.iaload, 1) := by decide +kernel
theorem dL_law_350 : decode cL_law 350 = .ok (.aload_n 0, 1) := by decide +kernel
theorem dL_law_351 : decode cL_law 351 = .ok (.iload 4, 2) := by decide +kernel
theorem dL_law_353 : decode cL_law 353 = .ok (.iconst 2, 1) := by decide +kernel
theorem dL_law_354 : decode cL_law 354 = .ok (.iadd, 1) := by decide +kernel
theorem dL_law_355 : decode cL_law 355 = .ok (.iaload, 1) := by decide +kernel
theorem dL_law_356 : decode cL_law 356 = .ok (.invokevirtual 49, 3) := by decide +kernel
theorem dL_law_359 : decode cL_law 359 = .ok (.aload_n 2, 1) := by decide +kernel
theorem dL_law_360 : decode cL_law 360 = .ok (.aload_n 0, 1) := by decide +kernel
theorem dL_law_361 : decode cL_law 361 = .ok (.iload 4, 2) := by decide +kernel
theorem dL_law_363 : decode cL_law 363 = .ok (.iconst 1, 1) := by decide +kernel
theorem dL_law_364 : decode cL_law 364 = .ok (.iadd, 1) := by decide +kernel
theorem dL_law_365 : decode cL_law 365 = .ok (.iaload, 1) := by decide +kernel
theorem dL_law_366 : decode cL_law 366 = .ok (.aload_n 0, 1) := by decide +kernel
theorem dL_law_367 : decode cL_law 367 = .ok (.iload 4, 2) := by decide +kernel
theorem dL_law_369 : decode cL_law 369 = .ok (.iconst 2, 1) := by decide +kernel
theorem dL_law_370 : decode cL_law 370 = .ok (.iadd, 1) := by decide +kernel
theorem dL_law_371 : decode cL_law 371 = .ok (.iaload, 1) := by decide +kernel
theorem dL_law_372 : decode cL_law 372 = .ok (.invokevirtual 52, 3) := by decide +kernel
theorem dL_law_375 : decode cL_law 375 = .ok (.if_icmp .eq 870, 3) := by decide +kernel
theorem dL_law_378 : decode cL_law 378 = .ok (.iconst 0, 1) := by decide +kernel
theorem dL_law_379 : decode cL_law 379 = .ok (.ireturn, 1) := by decide +kernel
theorem dL_law_380 : decode cL_law 380 = .ok (.aload_n 1, 1) := by decide +kernel
theorem dL_law_381 : decode cL_law 381 = .ok (.aload_n 0, 1) := by decide +kernel
theorem dL_law_382 : decode cL_law 382 = .ok (.iload 4, 2) := by decide +kernel
theorem dL_law_384 : decode cL_law 384 = .ok (.iconst 1, 1) := by decide +kernel
theorem dL_law_385 : decode cL_law 385 = .ok (.iadd, 1) := by decide +kernel
theorem dL_law_386 : decode cL_law 386 = .ok (.iaload, 1) := by decide +kernel
theorem dL_law_387 : decode cL_law 387 = .ok (.aload_n 0, 1) := by decide +kernel
theorem dL_law_388 : decode cL_law 388 = .ok (.iload 4, 2) := by decide +kernel
theorem dL_law_390 : decode cL_law 390 = .ok (.iconst 2, 1) := by decide +kernel
theorem dL_law_391 : decode cL_law 391 = .ok (.iadd, 1) := by decide +kernel
theorem dL_law_392 : decode cL_law 392 = .ok (.iaload, 1) := by decide +kernel
theorem dL_law_393 : decode cL_law 393 = .ok (.aload_n 0, 1) := by decide +kernel
theorem dL_law_394 : decode cL_law 394 = .ok (.iload 4, 2) := by decide +kernel
theorem dL_law_396 : decode cL_law 396 = .ok (.iconst 3, 1) := by decide +kernel
theorem dL_law_397 : decode cL_law 397 = .ok (.iadd, 1) := by decide +kernel
theorem dL_law_398 : decode cL_law 398 = .ok (.iaload, 1) := by decide +kernel
theorem dL_law_399 : decode cL_law 399 = .ok (.invokevirtual 53, 3) := by decide +kernel
theorem dL_law_402 : decode cL_law 402 = .ok (.aload_n 2, 1) := by decide +kernel
theorem dL_law_403 : decode cL_law 403 = .ok (.aload_n 0, 1) := by decide +kernel
theorem dL_law_404 : decode cL_law 404 = .ok (.iload 4, 2) := by decide +kernel
theorem dL_law_406 : decode cL_law 406 = .ok (.iconst 1, 1) := by decide +kernel
theorem dL_law_407 : decode cL_law 407 = .ok (.iadd, 1) := by decide +kernel
theorem dL_law_408 : decode cL_law 408 = .ok (.iaload, 1) := by decide +kernel
theorem dL_law_409 : decode cL_law 409 = .ok (.aload_n 0, 1) := by decide +kernel
theorem dL_law_410 : decode cL_law 410 = .ok (.iload 4, 2) := by decide +kernel
theorem dL_law_412 : decode cL_law 412 = .ok (.iconst 2, 1) := by decide +kernel
theorem dL_law_413 : decode cL_law 413 = .ok (.iadd, 1) := by decide +kernel
theorem dL_law_414 : decode cL_law 414 = .ok (.iaload, 1) := by decide +kernel
theorem dL_law_415 : decode cL_law 415 = .ok (.aload_n 0, 1) := by decide +kernel
theorem dL_law_416 : decode cL_law 416 = .ok (.iload 4, 2) := by decide +kernel
theorem dL_law_418 : decode cL_law 418 = .ok (.iconst 3, 1) := by decide +kernel
theorem dL_law_419 : decode cL_law 419 = .ok (.iadd, 1) := by decide +kernel
theorem dL_law_420 : decode cL_law 420 = .ok (.iaload, 1) := by decide +kernel
theorem dL_law_421 : decode cL_law 421 = .ok (.invokevirtual 57, 3) := by decide +kernel
theorem dL_law_424 : decode cL_law 424 = .ok (.if_icmp .eq 821, 3) := by decide +kernel
theorem dL_law_427 : decode cL_law 427 = .ok (.iconst 0, 1) := by decide +kernel
theorem dL_law_428 : decode cL_law 428 = .ok (.ireturn, 1) := by decide +kernel
theorem dL_law_429 : decode cL_law 429 = .ok (.aload_n 1, 1) := by decide +kernel
theorem dL_law_430 : decode cL_law 430 = .ok (.aload_n 0, 1) := by decide +kernel
theorem dL_law_431 : decode cL_law 431 = .ok (.iload 4, 2) := by decide +kernel
theorem dL_law_433 : decode cL_law 433 = .ok (.iconst 1, 1) := by decide +kernel
theorem dL_law_434 : decode cL_law 434 = .ok (.iadd, 1) := by decide +kernel
theorem dL_law_435 : decode cL_law 435 = .ok (.iaload, 1) := by decide +kernel
theorem dL_law_436 : decode cL_law 436 = .ok (.aload_n 0, 1) := by decide +kernel
theorem dL_law_437 : decode cL_law 437 = .ok (.iload 4, 2) := by decide +kernel
theorem dL_law_439 : decode cL_law 439 = .ok (.iconst 2, 1) := by decide +kernel
theorem dL_law_440 : decode cL_law 440 = .ok (.iadd, 1) := by decide +kernel
theorem dL_law_441 : decode cL_law 441 = .ok (.iaload, 1) := by decide +kernel
theorem dL_law_442 : decode cL_law 442 = .ok (.aload_n 0, 1) := by decide +kernel
theorem dL_law_443 : decode cL_law 443 = .ok (.iload 4, 2) := by decide +kernel
theorem dL_law_445 : decode cL_law 445 = .ok (.iconst 3, 1) := by decide +kernel
theorem dL_law_446 : decode cL_law 446 = .ok (.iadd, 1) := by decide +kernel
theorem dL_law_447 : decode cL_law 447 = .ok (.iaload, 1) := by decide +kernel
theorem dL_law_448 : decode cL_law 448 = .ok (.aload_n 0, 1) := by decide +kernel
theorem dL_law_449 : decode cL_law 449 = .ok (.iload 4, 2) := by decide +kernel
theorem dL_law_451 : decode cL_law 451 = .ok (.iconst 4, 1) := by decide +kernel
theorem dL_law_452 : decode cL_law 452 = .ok (.iadd, 1) := by decide +kernel
theorem dL_law_453 : decode cL_law 453 = .ok (.iaload, 1) := by decide +kernel
theorem dL_law_454 : decode cL_law 454 = .ok (.invokevirtual 58, 3) := by decide +kernel
theorem dL_law_457 : decode cL_law 457 = .ok (.aload_n 2, 1) := by decide +kernel
theorem dL_law_458 : decode cL_law 458 = .ok (.aload_n 0, 1) := by decide +kernel
theorem dL_law_459 : decode cL_law 459 = .ok (.iload 4, 2) := by decide +kernel
theorem dL_law_461 : decode cL_law 461 = .ok (.iconst 1, 1) := by decide +kernel
theorem dL_law_462 : decode cL_law 462 = .ok (.iadd, 1) := by decide +kernel
theorem dL_law_463 : decode cL_law 463 = .ok (.iaload, 1) := by decide +kernel
theorem dL_law_464 : decode cL_law 464 = .ok (.aload_n 0, 1) := by decide +kernel
theorem dL_law_465 : decode cL_law 465 = .ok (.iload 4, 2) := by decide +kernel
theorem dL_law_467 : decode cL_law 467 = .ok (.iconst 2, 1) := by decide +kernel
theorem dL_law_468 : decode cL_law 468 = .ok (.iadd, 1) := by decide +kernel
theorem dL_law_469 : decode cL_law 469 = .ok (.iaload, 1) := by decide +kernel
theorem dL_law_470 : decode cL_law 470 = .ok (.aload_n 0, 1) := by decide +kernel
theorem dL_law_471 : decode cL_law 471 = .ok (.iload 4, 2) := by decide +kernel
theorem dL_law_473 : decode cL_law 473 = .ok (.iconst 3, 1) := by decide +kernel
theorem dL_law_474 : decode cL_law 474 = .ok (.iadd, 1) := by decide +kernel
theorem dL_law_475 : decode cL_law 475 = .ok (.iaload, 1) := by decide +kernel
theorem dL_law_476 : decode cL_law 476 = .ok (.aload_n 0, 1) := by decide +kernel
theorem dL_law_477 : decode cL_law 477 = .ok (.iload 4, 2) := by decide +kernel
theorem dL_law_479 : decode cL_law 479 = .ok (.iconst 4, 1) := by decide +kernel
theorem dL_law_480 : decode cL_law 480 = .ok (.iadd, 1) := by decide +kernel
theorem dL_law_481 : decode cL_law 481 = .ok (.iaload, 1) := by decide +kernel
theorem dL_law_482 : decode cL_law 482 = .ok (.invokevirtual 62, 3) := by decide +kernel
theorem dL_law_485 : decode cL_law 485 = .ok (.if_icmp .eq 760, 3) := by decide +kernel
theorem dL_law_488 : decode cL_law 488 = .ok (.iconst 0, 1) := by decide +kernel
theorem dL_law_489 : decode cL_law 489 = .ok (.ireturn, 1) := by decide +kernel
theorem dL_law_490 : decode cL_law 490 = .ok (.aload_n 1, 1) := by decide +kernel
theorem dL_law_491 : decode cL_law 491 = .ok (.aload_n 0, 1) := by decide +kernel
theorem dL_law_492 : decode cL_law 492 = .ok (.iload 4, 2) := by decide +kernel
theorem dL_law_494 : decode cL_law 494 = .ok (.iconst 1, 1) := by decide +kernel
theorem dL_law_495 : decode cL_law 495 = .ok (.iadd, 1) := by decide +kernel
theorem dL_law_496 : decode cL_law 496 = .ok (.iaload, 1) := by decide +kernel
theorem dL_law_497 : decode cL_law 497 = .ok (.invokevirtual 63, 3) := by decide +kernel
theorem dL_law_500 : decode cL_law 500 = .ok (.aload_n 2, 1) := by decide +kernel
theorem dL_law_501 : decode cL_law 501 = .ok (.aload_n 0, 1) := by decide +kernel
theorem dL_law_502 : decode cL_law 502 = .ok (.iload 4, 2) := by decide +kernel
theorem dL_law_504 : decode cL_law 504 = .ok (.iconst 1, 1) := by decide +kernel
theorem dL_law_505 : decode cL_law 505 = .ok (.iadd, 1) := by decide +kernel
theorem dL_law_506 : decode cL_law 506 = .ok (.iaload, 1) := by decide +kernel
theorem dL_law_507 : decode cL_law 507 = .ok (.invokevirtual 66, 3) := by decide +kernel
theorem dL_law_510 : decode cL_law 510 = .ok (.if_icmp .eq 735, 3) := by decide +kernel
theorem dL_law_513 : decode cL_law 513 = .ok (.iconst 0, 1) := by decide +kernel
theorem dL_law_514 : decode cL_law 514 = .ok (.ireturn, 1) := by decide +kernel
theorem dL_law_515 : decode cL_law 515 = .ok (.aload_n 1, 1) := by decide +kernel
theorem dL_law_516 : decode cL_law 516 = .ok (.aload_n 0, 1) := by decide +kernel
theorem dL_law_517 : decode cL_law 517 = .ok (.iload 4, 2) := by decide +kernel
theorem dL_law_519 : decode cL_law 519 = .ok (.iconst 1, 1) := by decide +kernel
theorem dL_law_520 : decode cL_law 520 = .ok (.iadd, 1) := by decide +kernel
theorem dL_law_521 : decode cL_law 521 = .ok (.iaload, 1) := by decide +kernel
theorem dL_law_522 : decode cL_law 522 = .ok (.invokevirtual 67, 3) := by decide +kernel
theorem dL_law_525 : decode cL_law 525 = .ok (.aload_n 2, 1) := by decide +kernel
theorem dL_law_526 : decode cL_law 526 = .ok (.aload_n 0, 1) := by decide +kernel
theorem dL_law_527 : decode cL_law 527 = .ok (.iload 4, 2) := by decide +kernel
theorem dL_law_529 : decode cL_law 529 = .ok (.iconst 1, 1) := by decide +kernel
theorem dL_law_530 : decode cL_law 530 = .ok (.iadd, 1) := by decide +kernel
theorem dL_law_531 : decode cL_law 531 = .ok (.iaload, 1) := by decide +kernel
theorem dL_law_532 : decode cL_law 532 = .ok (.invokevirtual 70, 3) := by decide +kernel
theorem dL_law_535 : decode cL_law 535 = .ok (.if_icmp .eq 710, 3) := by decide +kernel
theorem dL_law_538 : decode cL_law 538 = .ok (.iconst 0, 1) := by decide +kernel
theorem dL_law_539 : decode cL_law 539 = .ok (.ireturn, 1) := by decide +kernel
theorem dL_law_540 : decode cL_law 540 = .ok (.aload_n 1, 1) := by decide +kernel
theorem dL_law_541 : decode cL_law 541 = .ok (.invokevirtual 71, 3) := by decide +kernel
theorem dL_law_544 : decode cL_law 544 = .ok (.aload_n 2, 1) := by decide +kernel
theorem dL_law_545 : decode cL_law 545 = .ok (.invokevirtual 74, 3) := by decide +kernel
theorem dL_law_548 : decode cL_law 548 = .ok (.if_icmp .eq 697, 3) := by decide +kernel
theorem dL_law_551 : decode cL_law 551 = .ok (.iconst 0, 1) := by decide +kernel
theorem dL_law_552 : decode cL_law 552 = .ok (.ireturn, 1) := by decide +kernel
theorem dL_law_553 : decode cL_law 553 = .ok (.aload_n 1, 1) := by decide +kernel
theorem dL_law_554 : decode cL_law 554 = .ok (.aload_n 0, 1) := by decide +kernel
theorem dL_law_555 : decode cL_law 555 = .ok (.iload 4, 2) := by decide +kernel
theorem dL_law_557 : decode cL_law 557 = .ok (.iconst 1, 1) := by decide +kernel
theorem dL_law_558 : decode cL_law 558 = .ok (.iadd, 1) := by decide +kernel
theorem dL_law_559 : decode cL_law 559 = .ok (.iaload, 1) := by decide +kernel
theorem dL_law_560 : decode cL_law 560 = .ok (.invokevirtual 75, 3) := by decide +kernel
theorem dL_law_563 : decode cL_law 563 = .ok (.aload_n 2, 1) := by decide +kernel
theorem dL_law_564 : decode cL_law 564 = .ok (.aload_n 0, 1) := by decide +kernel
theorem dL_law_565 : decode cL_law 565 = .ok (.iload 4, 2) := by decide +kernel
theorem dL_law_567 : decode cL_law 567 = .ok (.iconst 1, 1) := by decide +kernel
theorem dL_law_568 : decode cL_law 568 = .ok (.iadd, 1) := by decide +kernel
theorem dL_law_569 : decode cL_law 569 = .ok (.iaload, 1) := by decide +kernel
theorem dL_law_570 : decode cL_law 570 = .ok (.invokevirtual 78, 3) := by decide +kernel
theorem dL_law_573 : decode cL_law 573 = .ok (.if_icmp .eq 672, 3) := by decide +kernel
theorem dL_law_576 : decode cL_law 576 = .ok (.iconst 0, 1) := by decide +kernel
theorem dL_law_577 : decode cL_law 577 = .ok (.ireturn, 1) := by decide +kernel
theorem dL_law_578 : decode cL_law 578 = .ok (.aload_n 1, 1) := by decide +kernel
theorem dL_law_579 : decode cL_law 579 = .ok (.invokevirtual 79, 3) := by decide +kernel
theorem dL_law_582 : decode cL_law 582 = .ok (.aload_n 2, 1) := by decide +kernel
theorem dL_law_583 : decode cL_law 583 = .ok (.invokevirtual 82, 3) := by decide +kernel
theorem dL_law_586 : decode cL_law 586 = .ok (.if_icmp .eq 659, 3) := by decide +kernel
theorem dL_law_589 : decode cL_law 589 = .ok (.iconst 0, 1) := by decide +kernel
theorem dL_law_590 : decode cL_law 590 = .ok (.ireturn, 1) := by decide +kernel
theorem dL_law_591 : decode cL_law 591 = .ok (.aload_n 1, 1) := by decide +kernel
theorem dL_law_592 : decode cL_law 592 = .ok (.aload_n 0, 1) := by decide +kernel
theorem dL_law_593 : decode cL_law 593 = .ok (.iload 4, 2) := by decide +kernel
theorem dL_law_595 : decode cL_law 595 = .ok (.iconst 1, 1) := by decide +kernel
theorem dL_law_596 : decode cL_law 596 = .ok (.iadd, 1) := by decide +kernel
theorem dL_law_597 : decode cL_law 597 = .ok (.iaload, 1) := by decide +kernel
theorem dL_law_598 : decode cL_law 598 = .ok (.invokevirtual 83, 3) := by decide +kernel
theorem dL_law_601 : decode cL_law 601 = .ok (.aload_n 2, 1) := by decide +kernel
theorem dL_law_602 : decode cL_law 602 = .ok (.aload_n 0, 1) := by decide +kernel
theorem dL_law_603 : decode cL_law 603 = .ok (.iload 4, 2) := by decide +kernel
theorem dL_law_605 : decode cL_law 605 = .ok (.iconst 1, 1) := by decide +kernel
theorem dL_law_606 : decode cL_law 606 = .ok (.iadd, 1) := by decide +kernel
theorem dL_law_607 : decode cL_law 607 = .ok (.iaload, 1) := by decide +kernel
theorem dL_law_608 : decode cL_law 608 = .ok (.invokevirtual 86, 3) := by decide +kernel
theorem dL_law_611 : decode cL_law 611 = .ok (.if_icmp .eq 634, 3) := by decide +kernel
theorem dL_law_614 : decode cL_law 614 = .ok (.iconst 0, 1) := by decide +kernel
theorem dL_law_615 : decode cL_law 615 = .ok (.ireturn, 1) := by decide +kernel
theorem dL_law_616 : decode cL_law 616 = .ok (.aload_n 1, 1) := by decide +kernel
theorem dL_law_617 : decode cL_law 617 = .ok (.aload_n 0, 1) := by decide +kernel
theorem dL_law_618 : decode cL_law 618 = .ok (.iload 4, 2) := by decide +kernel
theorem dL_law_620 : decode cL_law 620 = .ok (.iconst 1, 1) := by decide +kernel
theorem dL_law_621 : decode cL_law 621 = .ok (.iadd, 1) := by decide +kernel
theorem dL_law_622 : decode cL_law 622 = .ok (.iaload, 1) := by decide +kernel
theorem dL_law_623 : decode cL_law 623 = .ok (.invokevirtual 87, 3) := by decide +kernel
theorem dL_law_626 : decode cL_law 626 = .ok (.aload_n 2, 1) := by decide +kernel
theorem dL_law_627 : decode cL_law 627 = .ok (.aload_n 0, 1) := by decide +kernel
theorem dL_law_628 : decode cL_law 628 = .ok (.iload 4, 2) := by decide +kernel
theorem dL_law_630 : decode cL_law 630 = .ok (.iconst 1, 1) := by decide +kernel
theorem dL_law_631 : decode cL_law 631 = .ok (.iadd, 1) := by decide +kernel
theorem dL_law_632 : decode cL_law 632 = .ok (.iaload, 1) := by decide +kernel
theorem dL_law_633 : decode cL_law 633 = .ok (.invokevirtual 90, 3) := by decide +kernel
theorem dL_law_636 : decode cL_law 636 = .ok (.if_icmp .eq 609, 3) := by decide +kernel
theorem dL_law_639 : decode cL_law 639 = .ok (.iconst 0, 1) := by decide +kernel
theorem dL_law_640 : decode cL_law 640 = .ok (.ireturn, 1) := by decide +kernel
theorem dL_law_641 : decode cL_law 641 = .ok (.aload_n 1, 1) := by decide +kernel
theorem dL_law_642 : decode cL_law 642 = .ok (.aload_n 0, 1) := by decide +kernel
theorem dL_law_643 : decode cL_law 643 = .ok (.iload 4, 2) := by decide +kernel
theorem dL_law_645 : decode cL_law 645 = .ok (.iconst 1, 1) := by decide +kernel
theorem dL_law_646 : decode cL_law 646 = .ok (.iadd, 1) := by decide +kernel
theorem dL_law_647 : decode cL_law 647 = .ok (.iaload, 1) := by decide +kernel
theorem dL_law_648 : decode cL_law 648 = .ok (.invokevirtual 91, 3) := by decide +kernel
theorem dL_law_651 : decode cL_law 651 = .ok (.aload_n 2, 1) := by decide +kernel
theorem dL_law_652 : decode cL_law 652 = .ok (.aload_n 0, 1) := by decide +kernel
theorem dL_law_653 : decode cL_law 653 = .ok (.iload 4, 2) := by decide +kernel
theorem dL_law_655 : decode cL_law 655 = .ok (.iconst 1, 1) := by decide +kernel
theorem dL_law_656 : decode cL_law 656 = .ok (.iadd, 1) := by decide +kernel
theorem dL_law_657 : decode cL_law 657 = .ok (.iaload, 1) := by decide +kernel
theorem dL_law_658 : decode cL_law 658 = .ok (.invokevirtual 94, 3) := by decide +kernel
theorem dL_law_661 : decode cL_law 661 = .ok (.if_icmp .eq 584, 3) := by decide +kernel
theorem dL_law_664 : decode cL_law 664 = .ok (.iconst 0, 1) := by decide +kernel
theorem dL_law_665 : decode cL_law 665 = .ok (.ireturn, 1) := by decide +kernel
theorem dL_law_666 : decode cL_law 666 = .ok (.aload_n 1, 1) := by decide +kernel
theorem dL_law_667 : decode cL_law 667 = .ok (.invokevirtual 95, 3) := by decide +kernel
theorem dL_law_670 : decode cL_law 670 = .ok (.aload_n 2, 1) := by decide +kernel
theorem dL_law_671 : decode cL_law 671 = .ok (.invokevirtual 98, 3) := by decide +kernel
theorem dL_law_674 : decode cL_law 674 = .ok (.if_icmp .eq 571, 3) := by decide +kernel
theorem dL_law_677 : decode cL_law 677 = .ok (.iconst 0, 1) := by decide +kernel
theorem dL_law_678 : decode cL_law 678 = .ok (.ireturn, 1) := by decide +kernel
theorem dL_law_679 : decode cL_law 679 = .ok (.aload_n 1, 1) := by decide +kernel
theorem dL_law_680 : decode cL_law 680 = .ok (.aload_n 0, 1) := by decide +kernel
theorem dL_law_681 : decode cL_law 681 = .ok (.iload 4, 2) := by decide +kernel
theorem dL_law_683 : decode cL_law 683 = .ok (.iconst 1, 1) := by decide +kernel
theorem dL_law_684 : decode cL_law 684 = .ok (.iadd, 1) := by decide +kernel
theorem dL_law_685 : decode cL_law 685 = .ok (.iaload, 1) := by decide +kernel
theorem dL_law_686 : decode cL_law 686 = .ok (.invokevirtual 99, 3) := by decide +kernel
theorem dL_law_689 : decode cL_law 689 = .ok (.aload_n 2, 1) := by decide +kernel
theorem dL_law_690 : decode cL_law 690 = .ok (.aload_n 0, 1) := by decide +kernel
theorem dL_law_691 : decode cL_law 691 = .ok (.iload 4, 2) := by decide +kernel
theorem dL_law_693 : decode cL_law 693 = .ok (.iconst 1, 1) := by decide +kernel
theorem dL_law_694 : decode cL_law 694 = .ok (.iadd, 1) := by decide +kernel
theorem dL_law_695 : decode cL_law 695 = .ok (.iaload, 1) := by decide +kernel
theorem dL_law_696 : decode cL_law 696 = .ok (.invokevirtual 102, 3) := by decide +kernel
theorem dL_law_699 : decode cL_law 699 = .ok (.if_icmp .eq 546, 3) := by decide +kernel
theorem dL_law_702 : decode cL_law 702 = .ok (.iconst 0, 1) := by decide +kernel
theorem dL_law_703 : decode cL_law 703 = .ok (.ireturn, 1) := by decide +kernel
theorem dL_law_704 : decode cL_law 704 = .ok (.aload_n 1, 1) := by decide +kernel
theorem dL_law_705 : decode cL_law 705 = .ok (.invokevirtual 103, 3) := by decide +kernel
theorem dL_law_708 : decode cL_law 708 = .ok (.aload_n 2, 1) := by decide +kernel
theorem dL_law_709 : decode cL_law 709 = .ok (.invokevirtual 106, 3) := by decide +kernel
theorem dL_law_712 : decode cL_law 712 = .ok (.if_icmp .eq 533, 3) := by decide +kernel
theorem dL_law_715 : decode cL_law 715 = .ok (.iconst 0, 1) := by decide +kernel
theorem dL_law_716 : decode cL_law 716 = .ok (.ireturn, 1) := by decide +kernel
theorem dL_law_717 : decode cL_law 717 = .ok (.aload_n 1, 1) := by decide +kernel
theorem dL_law_718 : decode cL_law 718 = .ok (.invokevirtual 107, 3) := by decide +kernel
theorem dL_law_721 : decode cL_law 721 = .ok (.aload_n 2, 1) := by decide +kernel
theorem dL_law_722 : decode cL_law 722 = .ok (.invokevirtual 110, 3) := by decide +kernel
theorem dL_law_725 : decode cL_law 725 = .ok (.if_icmp .eq 520, 3) := by decide +kernel
theorem dL_law_728 : decode cL_law 728 = .ok (.iconst 0, 1) := by decide +kernel
theorem dL_law_729 : decode cL_law 729 = .ok (.ireturn, 1) := by decide +kernel
theorem dL_law_730 : decode cL_law 730 = .ok (.aload_n 1, 1) := by decide +kernel
theorem dL_law_731 : decode cL_law 731 = .ok (.aload_n 0, 1) := by decide +kernel
theorem dL_law_732 : decode cL_law 732 = .ok (.iload 4, 2) := by decide +kernel
theorem dL_law_734 : decode cL_law 734 = .ok (.iconst 1, 1) := by decide +kernel
theorem dL_law_735 : decode cL_law 735 = .ok (.iadd, 1) := by decide +kernel
theorem dL_law_736 : decode cL_law 736 = .ok (.iaload, 1) := by decide +kernel
theorem dL_law_737 : decode cL_law 737 = .ok (.invokevirtual 111, 3) := by decide +kernel
theorem dL_law_740 : decode cL_law 740 = .ok (.aload_n 2, 1) := by decide +kernel
theorem dL_law_741 : decode cL_law 741 = .ok (.aload_n 0, 1) := by decide +kernel
theorem dL_law_742 : decode cL_law 742 = .ok (.iload 4, 2) := by decide +kernel
theorem dL_law_744 : decode cL_law 744 = .ok (.iconst 1, 1) := by decide +kernel
theorem dL_law_745 : decode cL_law 745 = .ok (.iadd, 1) := by decide +kernel
theorem dL_law_746 : decode cL_law 746 = .ok (.iaload, 1) := by decide +kernel
theorem dL_law_747 : decode cL_law 747 = .ok (.invokevirtual 114, 3) := by decide +kernel
theorem dL_law_750 : decode cL_law 750 = .ok (.if_icmp .eq 495, 3) := by decide +kernel
theorem dL_law_753 : decode cL_law 753 = .ok (.iconst 0, 1) := by decide +kernel
theorem dL_law_754 : decode cL_law 754 = .ok (.ireturn, 1) := by decide +kernel
theorem dL_law_755 : decode cL_law 755 = .ok (.aload_n 1, 1) := by decide +kernel
theorem dL_law_756 : decode cL_law 756 = .ok (.invokevirtual 115, 3) := by decide +kernel
theorem dL_law_759 : decode cL_law 759 = .ok (.aload_n 2, 1) := by decide +kernel
theorem dL_law_760 : decode cL_law 760 = .ok (.invokevirtual 118, 3) := by decide +kernel
theorem dL_law_763 : decode cL_law 763 = .ok (.if_icmp .eq 482, 3) := by decide +kernel
theorem dL_law_766 : decode cL_law 766 = .ok (.iconst 0, 1) := by decide +kernel
theorem dL_law_767 : decode cL_law 767 = .ok (.ireturn, 1) := by decide +kernel
theorem dL_law_768 : decode cL_law 768 = .ok (.aload_n 1, 1) := by decide +kernel
theorem dL_law_769 : decode cL_law 769 = .ok (.invokevirtual 119, 3) := by decide +kernel
theorem dL_law_772 : decode cL_law 772 = .ok (.aload_n 2, 1) := by decide +kernel
theorem dL_law_773 : decode cL_law 773 = .ok (.invokevirtual 122, 3) := by decide +kernel
theorem dL_law_776 : decode cL_law 776 = .ok (.if_icmp .eq 469, 3) := by decide +kernel
theorem dL_law_779 : decode cL_law 779 = .ok (.iconst 0, 1) := by decide +kernel
theorem dL_law_780 : decode cL_law 780 = .ok (.ireturn, 1) := by decide +kernel
theorem dL_law_781 : decode cL_law 781 = .ok (.aload_n 1, 1) := by decide +kernel
theorem dL_law_782 : decode cL_law 782 = .ok (.invokevirtual 123, 3) := by decide +kernel
theorem dL_law_785 : decode cL_law 785 = .ok (.aload_n 2, 1) := by decide +kernel
theorem dL_law_786 : decode cL_law 786 = .ok (.invokevirtual 126, 3) := by decide +kernel
theorem dL_law_789 : decode cL_law 789 = .ok (.if_icmp .eq 456, 3) := by decide +kernel
theorem dL_law_792 : decode cL_law 792 = .ok (.iconst 0, 1) := by decide +kernel
theorem dL_law_793 : decode cL_law 793 = .ok (.ireturn, 1) := by decide +kernel
theorem dL_law_794 : decode cL_law 794 = .ok (.aload_n 1, 1) := by decide +kernel
theorem dL_law_795 : decode cL_law 795 = .ok (.aload_n 0, 1) := by decide +kernel
theorem dL_law_796 : decode cL_law 796 = .ok (.iload 4, 2) := by decide +kernel
theorem dL_law_798 : decode cL_law 798 = .ok (.iconst 1, 1) := by decide +kernel
theorem dL_law_799 : decode cL_law 799 = .ok (.iadd, 1) := by decide +kernel
theorem dL_law_800 : decode cL_law 800 = .ok (.iaload, 1) := by decide +kernel
theorem dL_law_801 : decode cL_law 801 = .ok (.aload_n 0, 1) := by decide +kernel
theorem dL_law_802 : decode cL_law 802 = .ok (.iload 4, 2) := by decide +kernel
theorem dL_law_804 : decode cL_law 804 = .ok (.iconst 2, 1) := by decide +kernel
theorem dL_law_805 : decode cL_law 805 = .ok (.iadd, 1) := by decide +kernel
theorem dL_law_806 : decode cL_law 806 = .ok (.iaload, 1) := by decide +kernel
theorem dL_law_807 : decode cL_law 807 = .ok (.invokevirtual 127, 3) := by decide +kernel
theorem dL_law_810 : decode cL_law 810 = .ok (.aload_n 2, 1) := by decide +kernel
theorem dL_law_811 : decode cL_law 811 = .ok (.aload_n 0, 1) := by decide +kernel
theorem dL_law_812 : decode cL_law 812 = .ok (.iload 4, 2) := by decide +kernel
theorem dL_law_814 : decode cL_law 814 = .ok (.iconst 1, 1) := by decide +kernel
theorem dL_law_815 : decode cL_law 815 = .ok (.iadd, 1) := by decide +kernel
theorem dL_law_816 : decode cL_law 816 = .ok (.iaload, 1) := by decide +kernel
theorem dL_law_817 : decode cL_law 817 = .ok (.aload_n 0, 1) := by decide +kernel
theorem dL_law_818 : decode cL_law 818 = .ok (.iload 4, 2) := by decide +kernel
theorem dL_law_820 : decode cL_law 820 = .ok (.iconst 2, 1) := by decide +kernel
theorem dL_law_821 : decode cL_law 821 = .ok (.iadd, 1) := by decide +kernel
theorem dL_law_822 : decode cL_law 822 = .ok (.iaload, 1) := by decide +kernel
theorem dL_law_823 : decode cL_law 823 = .ok (.invokevirtual 130, 3) := by decide +kernel
theorem dL_law_826 : decode cL_law 826 = .ok (.if_icmp .eq 419, 3) := by decide +kernel
theorem dL_law_829 : decode cL_law 829 = .ok (.iconst 0, 1) := by decide +kernel
theorem dL_law_830 : decode cL_law 830 = .ok (.ireturn, 1) := by decide +kernel
theorem dL_law_831 : decode cL_law 831 = .ok (.aload_n 1, 1) := by decide +kernel
theorem dL_law_832 : decode cL_law 832 = .ok (.aload_n 0, 1) := by decide +kernel
theorem dL_law_833 : decode cL_law 833 = .ok (.iload 4, 2) := by decide +kernel
theorem dL_law_835 : decode cL_law 835 = .ok (.iconst 1, 1) := by decide +kernel
theorem dL_law_836 : decode cL_law 836 = .ok (.iadd, 1) := by decide +kernel
theorem dL_law_837 : decode cL_law 837 = .ok (.iaload, 1) := by decide +kernel
theorem dL_law_838 : decode cL_law 838 = .ok (.aload_n 0, 1) := by decide +kernel
theorem dL_law_839 : decode cL_law 839 = .ok (.iload 4, 2) := by decide +kernel
theorem dL_law_841 : decode cL_law 841 = .ok (.iconst 2, 1) := by decide +kernel
theorem dL_law_842 : decode cL_law 842 = .ok (.iadd, 1) := by decide +kernel
theorem dL_law_843 : decode cL_law 843 = .ok (.iaload, 1) := by decide +kernel
theorem dL_law_844 : decode cL_law 844 = .ok (.invokevirtual 131, 3) := by decide +kernel
theorem dL_law_847 : decode cL_law 847 = .ok (.aload_n 2, 1) := by decide +kernel
theorem dL_law_848 : decode cL_law 848 = .ok (.aload_n 0, 1) := by decide +kernel
theorem dL_law_849 : decode cL_law 849 = .ok (.iload 4, 2) := by decide +kernel
theorem dL_law_851 : decode cL_law 851 = .ok (.iconst 1, 1) := by decide +kernel
theorem dL_law_852 : decode cL_law 852 = .ok (.iadd, 1) := by decide +kernel
theorem dL_law_853 : decode cL_law 853 = .ok (.iaload, 1) := by decide +kernel
theorem dL_law_854 : decode cL_law 854 = .ok (.aload_n 0, 1) := by decide +kernel
theorem dL_law_855 : decode cL_law 855 = .ok (.iload 4, 2) := by decide +kernel
theorem dL_law_857 : decode cL_law 857 = .ok (.iconst 2, 1) := by decide +kernel
theorem dL_law_858 : decode cL_law 858 = .ok (.iadd, 1) := by decide +kernel
theorem dL_law_859 : decode cL_law 859 = .ok (.iaload, 1) := by decide +kernel
theorem dL_law_860 : decode cL_law 860 = .ok (.invokevirtual 134, 3) := by decide +kernel
theorem dL_law_863 : decode cL_law 863 = .ok (.if_icmp .eq 382, 3) := by decide +kernel
theorem dL_law_866 : decode cL_law 866 = .ok (.iconst 0, 1) := by decide +kernel
theorem dL_law_867 : decode cL_law 867 = .ok (.ireturn, 1) := by decide +kernel
theorem dL_law_868 : decode cL_law 868 = .ok (.aload_n 1, 1) := by decide +kernel
theorem dL_law_869 : decode cL_law 869 = .ok (.aload_n 0, 1) := by decide +kernel
theorem dL_law_870 : decode cL_law 870 = .ok (.iload 4, 2) := by decide +kernel
theorem dL_law_872 : decode cL_law 872 = .ok (.iconst 1, 1) := by decide +kernel
theorem dL_law_873 : decode cL_law 873 = .ok (.iadd, 1) := by decide +kernel
theorem dL_law_874 : decode cL_law 874 = .ok (.iaload, 1) := by decide +kernel
theorem dL_law_875 : decode cL_law 875 = .ok (.aload_n 0, 1) := by decide +kernel
theorem dL_law_876 : decode cL_law 876 = .ok (.iload 4, 2) := by decide +kernel
theorem dL_law_878 : decode cL_law 878 = .ok (.iconst 2, 1) := by decide +kernel
theorem dL_law_879 : decode cL_law 879 = .ok (.iadd, 1) := by decide +kernel
theorem dL_law_880 : decode cL_law 880 = .ok (.iaload, 1) := by decide +kernel
theorem dL_law_881 : decode cL_law 881 = .ok (.invokevirtual 135, 3) := by decide +kernel
theorem dL_law_884 : decode cL_law 884 = .ok (.aload_n 2, 1) := by decide +kernel
theorem dL_law_885 : decode cL_law 885 = .ok (.aload_n 0, 1) := by decide +kernel
theorem dL_law_886 : decode cL_law 886 = .ok (.iload 4, 2) := by decide +kernel
theorem dL_law_888 : decode cL_law 888 = .ok (.iconst 1, 1) := by decide +kernel
theorem dL_law_889 : decode cL_law 889 = .ok (.iadd, 1) := by decide +kernel
theorem dL_law_890 : decode cL_law 890 = .ok (.iaload, 1) := by decide +kernel
theorem dL_law_891 : decode cL_law 891 = .ok (.aload_n 0, 1) := by decide +kernel
theorem dL_law_892 : decode cL_law 892 = .ok (.iload 4, 2) := by decide +kernel
theorem dL_law_894 : decode cL_law 894 = .ok (.iconst 2, 1) := by decide +kernel
theorem dL_law_895 : decode cL_law 895 = .ok (.iadd, 1) := by decide +kernel
theorem dL_law_896 : decode cL_law 896 = .ok (.iaload, 1) := by decide +kernel
theorem dL_law_897 : decode cL_law 897 = .ok (.invokevirtual 138, 3) := by decide +kernel
theorem dL_law_900 : decode cL_law 900 = .ok (.if_icmp .eq 345, 3) := by decide +kernel
theorem dL_law_903 : decode cL_law 903 = .ok (.iconst 0, 1) := by decide +kernel
theorem dL_law_904 : decode cL_law 904 = .ok (.ireturn, 1) := by decide +kernel
theorem dL_law_905 : decode cL_law 905 = .ok (.aload_n 1, 1) := by decide +kernel
theorem dL_law_906 : decode cL_law 906 = .ok (.invokevirtual 139, 3) := by decide +kernel
theorem dL_law_909 : decode cL_law 909 = .ok (.aload_n 2, 1) := by decide +kernel
theorem dL_law_910 : decode cL_law 910 = .ok (.invokevirtual 142, 3) := by decide +kernel
theorem dL_law_913 : decode cL_law 913 = .ok (.if_icmp .eq 332, 3) := by decide +kernel
theorem dL_law_916 : decode cL_law 916 = .ok (.iconst 0, 1) := by decide +kernel
theorem dL_law_917 : decode cL_law 917 = .ok (.ireturn, 1) := by decide +kernel
theorem dL_law_918 : decode cL_law 918 = .ok (.aload_n 1, 1) := by decide +kernel
theorem dL_law_919 : decode cL_law 919 = .ok (.aload_n 0, 1) := by decide +kernel
theorem dL_law_920 : decode cL_law 920 = .ok (.iload 4, 2) := by decide +kernel
theorem dL_law_922 : decode cL_law 922 = .ok (.iconst 1, 1) := by decide +kernel
theorem dL_law_923 : decode cL_law 923 = .ok (.iadd, 1) := by decide +kernel
theorem dL_law_924 : decode cL_law 924 = .ok (.iaload, 1) := by decide +kernel
theorem dL_law_925 : decode cL_law 925 = .ok (.aload_n 3, 1) := by decide +kernel
theorem dL_law_926 : decode cL_law 926 = .ok (.invokestatic 143, 3) := by decide +kernel
theorem dL_law_929 : decode cL_law 929 = .ok (.istore 5, 2) := by decide +kernel
theorem dL_law_931 : decode cL_law 931 = .ok (.aload_n 2, 1) := by decide +kernel
theorem dL_law_932 : decode cL_law 932 = .ok (.aload_n 0, 1) := by decide +kernel
theorem dL_law_933 : decode cL_law 933 = .ok (.iload 4, 2) := by decide +kernel
theorem dL_law_935 : decode cL_law 935 = .ok (.iconst 1, 1) := by decide +kernel
theorem dL_law_936 : decode cL_law 936 = .ok (.iadd, 1) := by decide +kernel
theorem dL_law_937 : decode cL_law 937 = .ok (.iaload, 1) := by decide +kernel
theorem dL_law_938 : decode cL_law 938 = .ok (.invokevirtual 146, 3) := by decide +kernel
theorem dL_law_941 : decode cL_law 941 = .ok (.istore 6, 2) := by decide +kernel
theorem dL_law_943 : decode cL_law 943 = .ok (.aload_n 2, 1) := by decide +kernel
theorem dL_law_944 : decode cL_law 944 = .ok (.invokevirtual 46, 3) := by decide +kernel
theorem dL_law_947 : decode cL_law 947 = .ok (.iload 5, 2) := by decide +kernel
theorem dL_law_949 : decode cL_law 949 = .ok (.if_icmp .eq 5, 3) := by decide +kernel
theorem dL_law_952 : decode cL_law 952 = .ok (.iconst 0, 1) := by decide +kernel
theorem dL_law_953 : decode cL_law 953 = .ok (.ireturn, 1) := by decide +kernel
theorem dL_law_954 : decode cL_law 954 = .ok (.iload 5, 2) := by decide +kernel
theorem dL_law_956 : decode cL_law 956 = .ok (.ifCond .ne 15, 3) := by decide +kernel
theorem dL_law_959 : decode cL_law 959 = .ok (.aload_n 3, 1) := by decide +kernel
theorem dL_law_960 : decode cL_law 960 = .ok (.iconst 0, 1) := by decide +kernel
theorem dL_law_961 : decode cL_law 961 = .ok (.laload, 1) := by decide +kernel
theorem dL_law_962 : decode cL_law 962 = .ok (.iload 6, 2) := by decide +kernel
theorem dL_law_964 : decode cL_law 964 = .ok (.i2l, 1) := by decide +kernel
theorem dL_law_965 : decode cL_law 965 = .ok (.lcmp, 1) := by decide +kernel
theorem dL_law_966 : decode cL_law 966 = .ok (.ifCond .eq 5, 3) := by decide +kernel
theorem dL_law_969 : decode cL_law 969 = .ok (.iconst 0, 1) := by decide +kernel
theorem dL_law_970 : decode cL_law 970 = .ok (.ireturn, 1) := by decide +kernel
theorem dL_law_971 : decode cL_law 971 = .ok (.goto 274, 3) := by decide +kernel
theorem dL_law_974 : decode cL_law 974 = .ok (.aload_n 1, 1) := by decide +kernel
theorem dL_law_975 : decode cL_law 975 = .ok (.aload_n 0, 1) := by decide +kernel
theorem dL_law_976 : decode cL_law 976 = .ok (.iload 4, 2) := by decide +kernel
theorem dL_law_978 : decode cL_law 978 = .ok (.iconst 1, 1) := by decide +kernel
theorem dL_law_979 : decode cL_law 979 = .ok (.iadd, 1) := by decide +kernel
theorem dL_law_980 : decode cL_law 980 = .ok (.iaload, 1) := by decide +kernel
theorem dL_law_981 : decode cL_law 981 = .ok (.invokevirtual 147, 3) := by decide +kernel
theorem dL_law_984 : decode cL_law 984 = .ok (.aload_n 2, 1) := by decide +kernel
theorem dL_law_985 : decode cL_law 985 = .ok (.aload_n 0, 1) := by decide +kernel
theorem dL_law_986 : decode cL_law 986 = .ok (.iload 4, 2) := by decide +kernel
theorem dL_law_988 : decode cL_law 988 = .ok (.iconst 1, 1) := by decide +kernel
theorem dL_law_989 : decode cL_law 989 = .ok (.iadd, 1) := by decide +kernel
theorem dL_law_990 : decode cL_law 990 = .ok (.iaload, 1) := by decide +kernel
theorem dL_law_991 : decode cL_law 991 = .ok (.invokevirtual 150, 3) := by decide +kernel
theorem dL_law_994 : decode cL_law 994 = .ok (.if_icmp .eq 251, 3) := by decide +kernel
theorem dL_law_997 : decode cL_law 997 = .ok (.iconst 0, 1) := by decide +kernel
theorem dL_law_998 : decode cL_law 998 = .ok (.ireturn, 1) := by decide +kernel
theorem dL_law_999 : decode cL_law 999 = .ok (.aload_n 1, 1) := by decide +kernel
theorem dL_law_1000 : decode cL_law 1000 = .ok (.aload_n 0, 1) := by decide +kernel
theorem dL_law_1001 : decode cL_law 1001 = .ok (.iload 4, 2) := by decide +kernel
theorem dL_law_1003 : decode cL_law 1003 = .ok (.iconst 1, 1) := by decide +kernel
theorem dL_law_1004 : decode cL_law 1004 = .ok (.iadd, 1) := by decide +kernel
theorem dL_law_1005 : decode cL_law 1005 = .ok (.iaload, 1) := by decide +kernel
theorem dL_law_1006 : decode cL_law 1006 = .ok (.aload_n 0, 1) := by decide +kernel
theorem dL_law_1007 : decode cL_law 1007 = .ok (.iload 4, 2) := by decide +kernel
theorem dL_law_1009 : decode cL_law 1009 = .ok (.iconst 2, 1) := by decide +kernel
theorem dL_law_1010 : decode cL_law 1010 = .ok (.iadd, 1) := by decide +kernel
theorem dL_law_1011 : decode cL_law 1011 = .ok (.iaload, 1) := by decide +kernel
theorem dL_law_1012 : decode cL_law 1012 = .ok (.invokevirtual 151, 3) := by decide +kernel
theorem dL_law_1015 : decode cL_law 1015 = .ok (.aload_n 2, 1) := by decide +kernel
theorem dL_law_1016 : decode cL_law 1016 = .ok (.aload_n 0, 1) := by decide +kernel
theorem dL_law_1017 : decode cL_law 1017 = .ok (.iload 4, 2) := by decide +kernel
theorem dL_law_1019 : decode cL_law 1019 = .ok (.iconst 1, 1) := by decide +kernel
theorem dL_law_1020 : decode cL_law 1020 = .ok (.iadd, 1) := by decide +kernel
theorem dL_law_1021 : decode cL_law 1021 = .ok (.iaload, 1) := by decide +kernel
theorem dL_law_1022 : decode cL_law 1022 = .ok (.aload_n 0, 1) := by decide +kernel
theorem dL_law_1023 : decode cL_law 1023 = .ok (.iload 4, 2) := by decide +kernel
theorem dL_law_1025 : decode cL_law 1025 = .ok (.iconst 2, 1) := by decide +kernel
theorem dL_law_1026 : decode cL_law 1026 = .ok (.iadd, 1) := by decide +kernel
theorem dL_law_1027 : decode cL_law 1027 = .ok (.iaload, 1) := by decide +kernel
theorem dL_law_1028 : decode cL_law 1028 = .ok (.invokevirtual 154, 3) := by decide +kernel
theorem dL_law_1031 : decode cL_law 1031 = .ok (.if_icmp .eq 214, 3) := by decide +kernel
theorem dL_law_1034 : decode cL_law 1034 = .ok (.iconst 0, 1) := by decide +kernel
theorem dL_law_1035 : decode cL_law 1035 = .ok (.ireturn, 1) := by decide +kernel
theorem dL_law_1036 : decode cL_law 1036 = .ok (.aload_n 1, 1) := by decide +kernel
theorem dL_law_1037 : decode cL_law 1037 = .ok (.invokevirtual 155, 3) := by decide +kernel
theorem dL_law_1040 : decode cL_law 1040 = .ok (.aload_n 2, 1) := by decide +kernel
theorem dL_law_1041 : decode cL_law 1041 = .ok (.invokevirtual 158, 3) := by decide +kernel
theorem dL_law_1044 : decode cL_law 1044 = .ok (.if_icmp .eq 201, 3) := by decide +kernel
theorem dL_law_1047 : decode cL_law 1047 = .ok (.iconst 0, 1) := by decide +kernel
theorem dL_law_1048 : decode cL_law 1048 = .ok (.ireturn, 1) := by decide +kernel
theorem dL_law_1049 : decode cL_law 1049 = .ok (.aload_n 1, 1) := by decide +kernel
theorem dL_law_1050 : decode cL_law 1050 = .ok (.invokevirtual 159, 3) := by decide +kernel
theorem dL_law_1053 : decode cL_law 1053 = .ok (.aload_n 2, 1) := by decide +kernel
theorem dL_law_1054 : decode cL_law 1054 = .ok (.invokevirtual 162, 3) := by decide +kernel
theorem dL_law_1057 : decode cL_law 1057 = .ok (.if_icmp .eq 188, 3) := by decide +kernel
theorem dL_law_1060 : decode cL_law 1060 = .ok (.iconst 0, 1) := by decide +kernel
theorem dL_law_1061 : decode cL_law 1061 = .ok (.ireturn, 1) := by decide +kernel
theorem dL_law_1062 : decode cL_law 1062 = .ok (.aload_n 1, 1) := by decide +kernel
theorem dL_law_1063 : decode cL_law 1063 = .ok (.invokevirtual 163, 3) := by decide +kernel
theorem dL_law_1066 : decode cL_law 1066 = .ok (.aload_n 2, 1) := by decide +kernel
theorem dL_law_1067 : decode cL_law 1067 = .ok (.invokevirtual 166, 3) := by decide +kernel
theorem dL_law_1070 : decode cL_law 1070 = .ok (.if_icmp .eq 175, 3) := by decide +kernel
theorem dL_law_1073 : decode cL_law 1073 = .ok (.iconst 0, 1) := by decide +kernel
theorem dL_law_1074 : decode cL_law 1074 = .ok (.ireturn, 1) := by decide +kernel
theorem dL_law_1075 : decode cL_law 1075 = .ok (.aload_n 1, 1) := by decide +kernel
theorem dL_law_1076 : decode cL_law 1076 = .ok (.invokevirtual 167, 3) := by decide +kernel
theorem dL_law_1079 : decode cL_law 1079 = .ok (.aload_n 2, 1) := by decide +kernel
theorem dL_law_1080 : decode cL_law 1080 = .ok (.invokevirtual 170, 3) := by decide +kernel
theorem dL_law_1083 : decode cL_law 1083 = .ok (.if_icmp .eq 162, 3) := by decide +kernel
theorem dL_law_1086 : decode cL_law 1086 = .ok (.iconst 0, 1) := by decide +kernel
theorem dL_law_1087 : decode cL_law 1087 = .ok (.ireturn, 1) := by decide +kernel
theorem dL_law_1088 : decode cL_law 1088 = .ok (.aload_n 1, 1) := by decide +kernel
theorem dL_law_1089 : decode cL_law 1089 = .ok (.invokevirtual 171, 3) := by decide +kernel
theorem dL_law_1092 : decode cL_law 1092 = .ok (.aload_n 2, 1) := by decide +kernel
theorem dL_law_1093 : decode cL_law 1093 = .ok (.invokevirtual 174, 3) := by decide +kernel
theorem dL_law_1096 : decode cL_law 1096 = .ok (.if_icmp .eq 149, 3) := by decide +kernel
theorem dL_law_1099 : decode cL_law 1099 = .ok (.iconst 0, 1) := by decide +kernel
theorem dL_law_1100 : decode cL_law 1100 = .ok (.ireturn, 1) := by decide +kernel
theorem dL_law_1101 : decode cL_law 1101 = .ok (.aload_n 1, 1) := by decide +kernel
theorem dL_law_1102 : decode cL_law 1102 = .ok (.invokevirtual 175, 3) := by decide +kernel
theorem dL_law_1105 : decode cL_law 1105 = .ok (.aload_n 2, 1) := by decide +kernel
theorem dL_law_1106 : decode cL_law 1106 = .ok (.invokevirtual 178, 3) := by decide +kernel
theorem dL_law_1109 : decode cL_law 1109 = .ok (.if_icmp .eq 136, 3) := by decide +kernel
theorem dL_law_1112 : decode cL_law 1112 = .ok (.iconst 0, 1) := by decide +kernel
theorem dL_law_1113 : decode cL_law 1113 = .ok (.ireturn, 1) := by decide +kernel
theorem dL_law_1114 : decode cL_law 1114 = .ok (.aload_n 1, 1) := by decide +kernel
theorem dL_law_1115 : decode cL_law 1115 = .ok (.aload_n 0, 1) := by decide +kernel
theorem dL_law_1116 : decode cL_law 1116 = .ok (.iload 4, 2) := by decide +kernel
theorem dL_law_1118 : decode cL_law 1118 = .ok (.iconst 1, 1) := by decide +kernel
theorem dL_law_1119 : decode cL_law 1119 = .ok (.iadd, 1) := by decide +kernel
theorem dL_law_1120 : decode cL_law 1120 = .ok (.iaload, 1) := by decide +kernel
theorem dL_law_1121 : decode cL_law 1121 = .ok (.invokevirtual 179, 3) := by decide +kernel
theorem dL_law_1124 : decode cL_law 1124 = .ok (.aload_n 2, 1) := by decide +kernel
theorem dL_law_1125 : decode cL_law 1125 = .ok (.aload_n 0, 1) := by decide +kernel
theorem dL_law_1126 : decode cL_law 1126 = .ok (.iload 4, 2) := by decide +kernel
theorem dL_law_1128 : decode cL_law 1128 = .ok (.iconst 1, 1) := by decide +kernel
theorem dL_law_1129 : decode cL_law 1129 = .ok (.iadd, 1) := by decide +kernel
theorem dL_law_1130 : decode cL_law 1130 = .ok (.iaload, 1) := by decide +kernel
theorem dL_law_1131 : decode cL_law 1131 = .ok (.invokevirtual 182, 3) := by decide +kernel
theorem dL_law_1134 : decode cL_law 1134 = .ok (.if_icmp .eq 111, 3) := by decide +kernel
theorem dL_law_1137 : decode cL_law 1137 = .ok (.iconst 0, 1) := by decide +kernel
theorem dL_law_1138 : decode cL_law 1138 = .ok (.ireturn, 1) := by decide +kernel
theorem dL_law_1139 : decode cL_law 1139 = .ok (.aload_n 1, 1) := by decide +kernel
theorem dL_law_1140 : decode cL_law 1140 = .ok (.aload_n 0, 1) := by decide +kernel
theorem dL_law_1141 : decode cL_law 1141 = .ok (.iload 4, 2) := by decide +kernel
theorem dL_law_1143 : decode cL_law 1143 = .ok (.iconst 1, 1) := by decide +kernel
theorem dL_law_1144 : decode cL_law 1144 = .ok (.iadd, 1) := by decide +kernel
theorem dL_law_1145 : decode cL_law 1145 = .ok (.iaload, 1) := by decide +kernel
theorem dL_law_1146 : decode cL_law 1146 = .ok (.invokevirtual 183, 3) := by decide +kernel
theorem dL_law_1149 : decode cL_law 1149 = .ok (.aload_n 2, 1) := by decide +kernel
theorem dL_law_1150 : decode cL_law 1150 = .ok (.aload_n 0, 1) := by decide +kernel
theorem dL_law_1151 : decode cL_law 1151 = .ok (.iload 4, 2) := by decide +kernel
theorem dL_law_1153 : decode cL_law 1153 = .ok (.iconst 1, 1) := by decide +kernel
theorem dL_law_1154 : decode cL_law 1154 = .ok (.iadd, 1) := by decide +kernel
theorem dL_law_1155 : decode cL_law 1155 = .ok (.iaload, 1) := by decide +kernel
theorem dL_law_1156 : decode cL_law 1156 = .ok (.invokevirtual 186, 3) := by decide +kernel
theorem dL_law_1159 : decode cL_law 1159 = .ok (.if_icmp .eq 86, 3) := by decide +kernel
theorem dL_law_1162 : decode cL_law 1162 = .ok (.iconst 0, 1) := by decide +kernel
theorem dL_law_1163 : decode cL_law 1163 = .ok (.ireturn, 1) := by decide +kernel
theorem dL_law_1164 : decode cL_law 1164 = .ok (.aload_n 1, 1) := by decide +kernel
theorem dL_law_1165 : decode cL_law 1165 = .ok (.aload_n 0, 1) := by decide +kernel
theorem dL_law_1166 : decode cL_law 1166 = .ok (.iload 4, 2) := by decide +kernel
theorem dL_law_1168 : decode cL_law 1168 = .ok (.iconst 1, 1) := by decide +kernel
theorem dL_law_1169 : decode cL_law 1169 = .ok (.iadd, 1) := by decide +kernel
theorem dL_law_1170 : decode cL_law 1170 = .ok (.iaload, 1) := by decide +kernel
theorem dL_law_1171 : decode cL_law 1171 = .ok (.invokevirtual 187, 3) := by decide +kernel
theorem dL_law_1174 : decode cL_law 1174 = .ok (.aload_n 2, 1) := by decide +kernel
theorem dL_law_1175 : decode cL_law 1175 = .ok (.aload_n 0, 1) := by decide +kernel
theorem dL_law_1176 : decode cL_law 1176 = .ok (.iload 4, 2) := by decide +kernel
theorem dL_law_1178 : decode cL_law 1178 = .ok (.iconst 1, 1) := by decide +kernel
theorem dL_law_1179 : decode cL_law 1179 = .ok (.iadd, 1) := by decide +kernel
theorem dL_law_1180 : decode cL_law 1180 = .ok (.iaload, 1) := by decide +kernel
theorem dL_law_1181 : decode cL_law 1181 = .ok (.invokevirtual 190, 3) := by decide +kernel
theorem dL_law_1184 : decode cL_law 1184 = .ok (.if_icmp .eq 61, 3) := by decide +kernel
theorem dL_law_1187 : decode cL_law 1187 = .ok (.iconst 0, 1) := by decide +kernel
theorem dL_law_1188 : decode cL_law 1188 = .ok (.ireturn, 1) := by decide +kernel
theorem dL_law_1189 : decode cL_law 1189 = .ok (.aload_n 1, 1) := by decide +kernel
theorem dL_law_1190 : decode cL_law 1190 = .ok (.aload_n 0, 1) := by decide +kernel
theorem dL_law_1191 : decode cL_law 1191 = .ok (.iload 4, 2) := by decide +kernel
theorem dL_law_1193 : decode cL_law 1193 = .ok (.iconst 1, 1) := by decide +kernel
theorem dL_law_1194 : decode cL_law 1194 = .ok (.iadd, 1) := by decide +kernel
theorem dL_law_1195 : decode cL_law 1195 = .ok (.iaload, 1) := by decide +kernel
theorem dL_law_1196 : decode cL_law 1196 = .ok (.aload_n 3, 1) := by decide +kernel
theorem dL_law_1197 : decode cL_law 1197 = .ok (.invokestatic 191, 3) := by decide +kernel
theorem dL_law_1200 : decode cL_law 1200 = .ok (.istore 5, 2) := by decide +kernel
theorem dL_law_1202 : decode cL_law 1202 = .ok (.aload_n 2, 1) := by decide +kernel
theorem dL_law_1203 : decode cL_law 1203 = .ok (.aload_n 0, 1) := by decide +kernel
theorem dL_law_1204 : decode cL_law 1204 = .ok (.iload 4, 2) := by decide +kernel
theorem dL_law_1206 : decode cL_law 1206 = .ok (.iconst 1, 1) := by decide +kernel
theorem dL_law_1207 : decode cL_law 1207 = .ok (.iadd, 1) := by decide +kernel
theorem dL_law_1208 : decode cL_law 1208 = .ok (.iaload, 1) := by decide +kernel
theorem dL_law_1209 : decode cL_law 1209 = .ok (.invokevirtual 193, 3) := by decide +kernel
theorem dL_law_1212 : decode cL_law 1212 = .ok (.istore 6, 2) := by decide +kernel
theorem dL_law_1214 : decode cL_law 1214 = .ok (.aload_n 2, 1) := by decide +kernel
theorem dL_law_1215 : decode cL_law 1215 = .ok (.invokevirtual 46, 3) := by decide +kernel
theorem dL_law_1218 : decode cL_law 1218 = .ok (.iload 5, 2) := by decide +kernel
theorem dL_law_1220 : decode cL_law 1220 = .ok (.if_icmp .eq 5, 3) := by decide +kernel
theorem dL_law_1223 : decode cL_law 1223 = .ok (.iconst 0, 1) := by decide +kernel
theorem dL_law_1224 : decode cL_law 1224 = .ok (.ireturn, 1) := by decide +kernel
theorem dL_law_1225 : decode cL_law 1225 = .ok (.iload 5, 2) := by decide +kernel
theorem dL_law_1227 : decode cL_law 1227 = .ok (.ifCond .ne 15, 3) := by decide +kernel
theorem dL_law_1230 : decode cL_law 1230 = .ok (.aload_n 3, 1) := by decide +kernel
theorem dL_law_1231 : decode cL_law 1231 = .ok (.iconst 0, 1) := by decide +kernel
theorem dL_law_1232 : decode cL_law 1232 = .ok (.laload, 1) := by decide +kernel
theorem dL_law_1233 : decode cL_law 1233 = .ok (.iload 6, 2) := by decide +kernel
theorem dL_law_1235 : decode cL_law 1235 = .ok (.i2l, 1) := by decide +kernel
theorem dL_law_1236 : decode cL_law 1236 = .ok (.lcmp, 1) := by decide +kernel
theorem dL_law_1237 : decode cL_law 1237 = .ok (.ifCond .eq 5, 3) := by decide +kernel
theorem dL_law_1240 : decode cL_law 1240 = .ok (.iconst 0, 1) := by decide +kernel
theorem dL_law_1241 : decode cL_law 1241 = .ok (.ireturn, 1) := by decide +kernel
theorem dL_law_1242 : decode cL_law 1242 = .ok (.goto 3, 3) := by decide +kernel
theorem dL_law_1245 : decode cL_law 1245 = .ok (.iinc 4 5, 3) := by decide +kernel
theorem dL_law_1248 : decode cL_law 1248 = .ok (.goto (-1225), 3) := by decide +kernel
theorem dL_law_1251 : decode cL_law 1251 = .ok (.iconst 1, 1) := by decide +kernel
theorem dL_law_1252 : decode cL_law 1252 = .ok (.ireturn, 1) := by decide +kernel
theorem wmL_7 : Cond.methodLink RL 7 yX11_hedge ∈ sm_G := sm_in 1090 (by decide +kernel) rfl
theorem wiX11_hedge : Cond.instanceMethod yX11_hedge ∈ sm_G := sm_in 1091 (by decide +kernel) rfl
theorem wvX11_hedge : Cond.selects RX11 yX11_hedge yX11_hedge ∈ sm_G := sm_in 1092 (by decide +kernel) rfl
theorem wcX11_hedge : Cond.code mX11_hedge.1 mX11_hedge.2.1 mX11_hedge.2.2.1 mX11_hedge.2.2.2 ∈ sm_G := sm_in 1093 (by decide +kernel) rfl
theorem cvL_7 {M : sm_M} (hM : M.1.cls = RL) : sm_cV M mX11_hedge 7 2 11 13 RX11 TX11 tyX11 := by
  refine ⟨kX11, rfl, ⟨by decide, by decide, by decide +kernel⟩, ?_, wiX11_hedge, wvX11_hedge, wIX11, wcX11_hedge⟩
  rw [hM]; exact wmL_7
theorem wmL_15 : Cond.methodLink RL 15 yX11_reach ∈ sm_G := sm_in 1164 (by decide +kernel) rfl
theorem wiX11_reach : Cond.instanceMethod yX11_reach ∈ sm_G := sm_in 1165 (by decide +kernel) rfl
theorem wvX11_reach : Cond.selects RX11 yX11_reach yX11_reach ∈ sm_G := sm_in 1166 (by decide +kernel) rfl
theorem wcX11_reach : Cond.code mX11_reach.1 mX11_reach.2.1 mX11_reach.2.2.1 mX11_reach.2.2.2 ∈ sm_G := sm_in 1167 (by decide +kernel) rfl
theorem cvL_15 {M : sm_M} (hM : M.1.cls = RL) : sm_cV M mX11_reach 15 1 11 13 RX11 TX11 tyX11 := by
  refine ⟨kX11, rfl, ⟨by decide, by decide, by decide +kernel⟩, ?_, wiX11_reach, wvX11_reach, wIX11, wcX11_reach⟩
  rw [hM]; exact wmL_15
theorem wmL_19 : Cond.methodLink RL 19 yX11_row ∈ sm_G := sm_in 1172 (by decide +kernel) rfl
theorem wiX11_row : Cond.instanceMethod yX11_row ∈ sm_G := sm_in 1173 (by decide +kernel) rfl
theorem wvX11_row : Cond.selects RX11 yX11_row yX11_row ∈ sm_G := sm_in 1174 (by decide +kernel) rfl
theorem wcX11_row : Cond.code mX11_row.1 mX11_row.2.1 mX11_row.2.2.1 mX11_row.2.2.2 ∈ sm_G := sm_in 1175 (by decide +kernel) rfl
theorem cvL_19 {M : sm_M} (hM : M.1.cls = RL) : sm_cV M mX11_row 19 1 11 13 RX11 TX11 tyX11 := by
  refine ⟨kX11, rfl, ⟨by decide, by decide, by decide +kernel⟩, ?_, wiX11_row, wvX11_row, wIX11, wcX11_row⟩
  rw [hM]; exact wmL_19
theorem wmL_26 : Cond.methodLink RL 26 yX11_sign ∈ sm_G := sm_in 481 (by decide +kernel) rfl
theorem wiX11_sign : Cond.instanceMethod yX11_sign ∈ sm_G := sm_in 482 (by decide +kernel) rfl
theorem wvX11_sign : Cond.selects RX11 yX11_sign yX11_sign ∈ sm_G := sm_in 483 (by decide +kernel) rfl
theorem wcX11_sign : Cond.code mX11_sign.1 mX11_sign.2.1 mX11_sign.2.2.1 mX11_sign.2.2.2 ∈ sm_G := sm_in 484 (by decide +kernel) rfl
theorem cvL_26 {M : sm_M} (hM : M.1.cls = RL) : sm_cV M mX11_sign 26 1 11 13 RX11 TX11 tyX11 := by
  refine ⟨kX11, rfl, ⟨by decide, by decide, by decide +kernel⟩, ?_, wiX11_sign, wvX11_sign, wIX11, wcX11_sign⟩
  rw [hM]; exact wmL_26
theorem wmL_29 : Cond.methodLink RL 29 yX12_sign ∈ sm_G := sm_in 1181 (by decide +kernel) rfl
theorem wiX12_sign : Cond.instanceMethod yX12_sign ∈ sm_G := sm_in 1182 (by decide +kernel) rfl
theorem wvX12_sign : Cond.selects RX12 yX12_sign yX12_sign ∈ sm_G := sm_in 1183 (by decide +kernel) rfl
theorem wcX12_sign : Cond.code mX12_sign.1 mX12_sign.2.1 mX12_sign.2.2.1 mX12_sign.2.2.2 ∈ sm_G := sm_in 1184 (by decide +kernel) rfl
theorem cvL_29 {M : sm_M} (hM : M.1.cls = RL) : sm_cV M mX12_sign 29 1 12 57 RX12 TX12 tyX12 := by
  refine ⟨kX12, rfl, ⟨by decide, by decide, by decide +kernel⟩, ?_, wiX12_sign, wvX12_sign, wIX12, wcX12_sign⟩
  rw [hM]; exact wmL_29
theorem wmL_30 : Cond.methodLink RL 30 yX11_end ∈ sm_G := sm_in 489 (by decide +kernel) rfl
theorem wiX11_end : Cond.instanceMethod yX11_end ∈ sm_G := sm_in 490 (by decide +kernel) rfl
theorem wvX11_end : Cond.selects RX11 yX11_end yX11_end ∈ sm_G := sm_in 491 (by decide +kernel) rfl
theorem wcX11_end : Cond.code mX11_end.1 mX11_end.2.1 mX11_end.2.2.1 mX11_end.2.2.2 ∈ sm_G := sm_in 492 (by decide +kernel) rfl
theorem cvL_30 {M : sm_M} (hM : M.1.cls = RL) : sm_cV M mX11_end 30 1 11 13 RX11 TX11 tyX11 := by
  refine ⟨kX11, rfl, ⟨by decide, by decide, by decide +kernel⟩, ?_, wiX11_end, wvX11_end, wIX11, wcX11_end⟩
  rw [hM]; exact wmL_30
theorem wmL_34 : Cond.methodLink RL 34 yX12_end ∈ sm_G := sm_in 1185 (by decide +kernel) rfl
theorem wiX12_end : Cond.instanceMethod yX12_end ∈ sm_G := sm_in 1186 (by decide +kernel) rfl
theorem wvX12_end : Cond.selects RX12 yX12_end yX12_end ∈ sm_G := sm_in 1187 (by decide +kernel) rfl
theorem wcX12_end : Cond.code mX12_end.1 mX12_end.2.1 mX12_end.2.2.1 mX12_end.2.2.2 ∈ sm_G := sm_in 1188 (by decide +kernel) rfl
theorem cvL_34 {M : sm_M} (hM : M.1.cls = RL) : sm_cV M mX12_end 34 1 12 57 RX12 TX12 tyX12 := by
  refine ⟨kX12, rfl, ⟨by decide, by decide, by decide +kernel⟩, ?_, wiX12_end, wvX12_end, wIX12, wcX12_end⟩
  rw [hM]; exact wmL_34
theorem wmL_35 : Cond.methodLink RL 35 yX11_land ∈ sm_G := sm_in 493 (by decide +kernel) rfl
theorem wiX11_land : Cond.instanceMethod yX11_land ∈ sm_G := sm_in 494 (by decide +kernel) rfl
theorem wvX11_land : Cond.selects RX11 yX11_land yX11_land ∈ sm_G := sm_in 495 (by decide +kernel) rfl
theorem wcX11_land : Cond.code mX11_land.1 mX11_land.2.1 mX11_land.2.2.1 mX11_land.2.2.2 ∈ sm_G := sm_in 496 (by decide +kernel) rfl
theorem cvL_35 {M : sm_M} (hM : M.1.cls = RL) : sm_cV M mX11_land 35 0 11 13 RX11 TX11 tyX11 := by
  refine ⟨kX11, rfl, ⟨by decide, by decide, by decide +kernel⟩, ?_, wiX11_land, wvX11_land, wIX11, wcX11_land⟩
  rw [hM]; exact wmL_35
theorem wmL_39 : Cond.methodLink RL 39 yX12_land ∈ sm_G := sm_in 1192 (by decide +kernel) rfl
theorem wiX12_land : Cond.instanceMethod yX12_land ∈ sm_G := sm_in 1193 (by decide +kernel) rfl
theorem wvX12_land : Cond.selects RX12 yX12_land yX12_land ∈ sm_G := sm_in 1194 (by decide +kernel) rfl
theorem wcX12_land : Cond.code mX12_land.1 mX12_land.2.1 mX12_land.2.2.1 mX12_land.2.2.2 ∈ sm_G := sm_in 1195 (by decide +kernel) rfl
theorem cvL_39 {M : sm_M} (hM : M.1.cls = RL) : sm_cV M mX12_land 39 0 12 57 RX12 TX12 tyX12 := by
  refine ⟨kX12, rfl, ⟨by decide, by decide, by decide +kernel⟩, ?_, wiX12_land, wvX12_land, wIX12, wcX12_land⟩
  rw [hM]; exact wmL_39
theorem wmL_40 : Cond.methodLink RL 40 yL_hedge ∈ sm_G := sm_in 1086 (by decide +kernel) rfl
theorem wsL_hedge : Cond.static yL_hedge ∈ sm_G := sm_in 1087 (by decide +kernel) rfl
theorem wIL : Cond.initialized RL ∈ sm_G := sm_in 91 (by decide +kernel) rfl
theorem wmL_45 : Cond.methodLink RL 45 yX12_hedge ∈ sm_G := sm_in 1243 (by decide +kernel) rfl
theorem wiX12_hedge : Cond.instanceMethod yX12_hedge ∈ sm_G := sm_in 1244 (by decide +kernel) rfl
theorem wvX12_hedge : Cond.selects RX12 yX12_hedge yX12_hedge ∈ sm_G := sm_in 1245 (by decide +kernel) rfl
theorem wcX12_hedge : Cond.code mX12_hedge.1 mX12_hedge.2.1 mX12_hedge.2.2.1 mX12_hedge.2.2.2 ∈ sm_G := sm_in 1246 (by decide +kernel) rfl
theorem cvL_45 {M : sm_M} (hM : M.1.cls = RL) : sm_cV M mX12_hedge 45 2 12 57 RX12 TX12 tyX12 := by
  refine ⟨kX12, rfl, ⟨by decide, by decide, by decide +kernel⟩, ?_, wiX12_hedge, wvX12_hedge, wIX12, wcX12_hedge⟩
  rw [hM]; exact wmL_45
theorem wmL_46 : Cond.methodLink RL 46 yX12_thrown ∈ sm_G := sm_in 1177 (by decide +kernel) rfl
theorem wiX12_thrown : Cond.instanceMethod yX12_thrown ∈ sm_G := sm_in 1178 (by decide +kernel) rfl
theorem wvX12_thrown : Cond.selects RX12 yX12_thrown yX12_thrown ∈ sm_G := sm_in 1179 (by decide +kernel) rfl
theorem wcX12_thrown : Cond.code mX12_thrown.1 mX12_thrown.2.1 mX12_thrown.2.2.1 mX12_thrown.2.2.2 ∈ sm_G := sm_in 1180 (by decide +kernel) rfl
theorem cvL_46 {M : sm_M} (hM : M.1.cls = RL) : sm_cV M mX12_thrown 46 0 12 57 RX12 TX12 tyX12 := by
  refine ⟨kX12, rfl, ⟨by decide, by decide, by decide +kernel⟩, ?_, wiX12_thrown, wvX12_thrown, wIX12, wcX12_thrown⟩
  rw [hM]; exact wmL_46
theorem wmL_49 : Cond.methodLink RL 49 yX11_grass ∈ sm_G := sm_in 540 (by decide +kernel) rfl
theorem wiX11_grass : Cond.instanceMethod yX11_grass ∈ sm_G := sm_in 541 (by decide +kernel) rfl
theorem wvX11_grass : Cond.selects RX11 yX11_grass yX11_grass ∈ sm_G := sm_in 542 (by decide +kernel) rfl
theorem wcX11_grass : Cond.code mX11_grass.1 mX11_grass.2.1 mX11_grass.2.2.1 mX11_grass.2.2.2 ∈ sm_G := sm_in 543 (by decide +kernel) rfl
theorem cvL_49 {M : sm_M} (hM : M.1.cls = RL) : sm_cV M mX11_grass 49 2 11 13 RX11 TX11 tyX11 := by
  refine ⟨kX11, rfl, ⟨by decide, by decide, by decide +kernel⟩, ?_, wiX11_grass, wvX11_grass, wIX11, wcX11_grass⟩
  rw [hM]; exact wmL_49
theorem wmL_52 : Cond.methodLink RL 52 yX12_grass ∈ sm_G := sm_in 1266 (by decide +kernel) rfl
theorem wiX12_grass : Cond.instanceMethod yX12_grass ∈ sm_G := sm_in 1267 (by decide +kernel) rfl
theorem wvX12_grass : Cond.selects RX12 yX12_grass yX12_grass ∈ sm_G := sm_in 1268 (by decide +kernel) rfl
theorem wcX12_grass : Cond.code mX12_grass.1 mX12_grass.2.1 mX12_grass.2.2.1 mX12_grass.2.2.2 ∈ sm_G := sm_in 1269 (by decide +kernel) rfl
theorem cvL_52 {M : sm_M} (hM : M.1.cls = RL) : sm_cV M mX12_grass 52 2 12 57 RX12 TX12 tyX12 := by
  refine ⟨kX12, rfl, ⟨by decide, by decide, by decide +kernel⟩, ?_, wiX12_grass, wvX12_grass, wIX12, wcX12_grass⟩
  rw [hM]; exact wmL_52
theorem wmL_53 : Cond.methodLink RL 53 yX11_set ∈ sm_G := sm_in 555 (by decide +kernel) rfl
theorem wiX11_set : Cond.instanceMethod yX11_set ∈ sm_G := sm_in 556 (by decide +kernel) rfl
theorem wvX11_set : Cond.selects RX11 yX11_set yX11_set ∈ sm_G := sm_in 557 (by decide +kernel) rfl
theorem wcX11_set : Cond.code mX11_set.1 mX11_set.2.1 mX11_set.2.2.1 mX11_set.2.2.2 ∈ sm_G := sm_in 558 (by decide +kernel) rfl
theorem cvL_53 {M : sm_M} (hM : M.1.cls = RL) : sm_cV M mX11_set 53 3 11 13 RX11 TX11 tyX11 := by
  refine ⟨kX11, rfl, ⟨by decide, by decide, by decide +kernel⟩, ?_, wiX11_set, wvX11_set, wIX11, wcX11_set⟩
  rw [hM]; exact wmL_53
theorem wmL_57 : Cond.methodLink RL 57 yX12_set ∈ sm_G := sm_in 1279 (by decide +kernel) rfl
theorem wiX12_set : Cond.instanceMethod yX12_set ∈ sm_G := sm_in 1280 (by decide +kernel) rfl
theorem wvX12_set : Cond.selects RX12 yX12_set yX12_set ∈ sm_G := sm_in 1281 (by decide +kernel) rfl
theorem wcX12_set : Cond.code mX12_set.1 mX12_set.2.1 mX12_set.2.2.1 mX12_set.2.2.2 ∈ sm_G := sm_in 1282 (by decide +kernel) rfl
theorem cvL_57 {M : sm_M} (hM : M.1.cls = RL) : sm_cV M mX12_set 57 3 12 57 RX12 TX12 tyX12 := by
  refine ⟨kX12, rfl, ⟨by decide, by decide, by decide +kernel⟩, ?_, wiX12_set, wvX12_set, wIX12, wcX12_set⟩
  rw [hM]; exact wmL_57
theorem wmL_58 : Cond.methodLink RL 58 yX11_sheet ∈ sm_G := sm_in 575 (by decide +kernel) rfl
theorem wiX11_sheet : Cond.instanceMethod yX11_sheet ∈ sm_G := sm_in 576 (by decide +kernel) rfl
theorem wvX11_sheet : Cond.selects RX11 yX11_sheet yX11_sheet ∈ sm_G := sm_in 577 (by decide +kernel) rfl
theorem wcX11_sheet : Cond.code mX11_sheet.1 mX11_sheet.2.1 mX11_sheet.2.2.1 mX11_sheet.2.2.2 ∈ sm_G := sm_in 578 (by decide +kernel) rfl
theorem cvL_58 {M : sm_M} (hM : M.1.cls = RL) : sm_cV M mX11_sheet 58 4 11 13 RX11 TX11 tyX11 := by
  refine ⟨kX11, rfl, ⟨by decide, by decide, by decide +kernel⟩, ?_, wiX11_sheet, wvX11_sheet, wIX11, wcX11_sheet⟩
  rw [hM]; exact wmL_58
theorem wmL_62 : Cond.methodLink RL 62 yX12_sheet ∈ sm_G := sm_in 1286 (by decide +kernel) rfl
theorem wiX12_sheet : Cond.instanceMethod yX12_sheet ∈ sm_G := sm_in 1287 (by decide +kernel) rfl
theorem wvX12_sheet : Cond.selects RX12 yX12_sheet yX12_sheet ∈ sm_G := sm_in 1288 (by decide +kernel) rfl
theorem wcX12_sheet : Cond.code mX12_sheet.1 mX12_sheet.2.1 mX12_sheet.2.2.1 mX12_sheet.2.2.2 ∈ sm_G := sm_in 1289 (by decide +kernel) rfl
theorem cvL_62 {M : sm_M} (hM : M.1.cls = RL) : sm_cV M mX12_sheet 62 4 12 57 RX12 TX12 tyX12 := by
  refine ⟨kX12, rfl, ⟨by decide, by decide, by decide +kernel⟩, ?_, wiX12_sheet, wvX12_sheet, wIX12, wcX12_sheet⟩
  rw [hM]; exact wmL_62
theorem wmL_63 : Cond.methodLink RL 63 yX11_walk ∈ sm_G := sm_in 584 (by decide +kernel) rfl
theorem wiX11_walk : Cond.instanceMethod yX11_walk ∈ sm_G := sm_in 585 (by decide +kernel) rfl
theorem wvX11_walk : Cond.selects RX11 yX11_walk yX11_walk ∈ sm_G := sm_in 586 (by decide +kernel) rfl
theorem wcX11_walk : Cond.code mX11_walk.1 mX11_walk.2.1 mX11_walk.2.2.1 mX11_walk.2.2.2 ∈ sm_G := sm_in 587 (by decide +kernel) rfl
theorem cvL_63 {M : sm_M} (hM : M.1.cls = RL) : sm_cV M mX11_walk 63 1 11 13 RX11 TX11 tyX11 := by
  refine ⟨kX11, rfl, ⟨by decide, by decide, by decide +kernel⟩, ?_, wiX11_walk, wvX11_walk, wIX11, wcX11_walk⟩
  rw [hM]; exact wmL_63
theorem wmL_66 : Cond.methodLink RL 66 yX12_walk ∈ sm_G := sm_in 1292 (by decide +kernel) rfl
theorem wiX12_walk : Cond.instanceMethod yX12_walk ∈ sm_G := sm_in 1293 (by decide +kernel) rfl
theorem wvX12_walk : Cond.selects RX12 yX12_walk yX12_walk ∈ sm_G := sm_in 1294 (by decide +kernel) rfl
theorem wcX12_walk : Cond.code mX12_walk.1 mX12_walk.2.1 mX12_walk.2.2.1 mX12_walk.2.2.2 ∈ sm_G := sm_in 1295 (by decide +kernel) rfl
theorem cvL_66 {M : sm_M} (hM : M.1.cls = RL) : sm_cV M mX12_walk 66 1 12 57 RX12 TX12 tyX12 := by
  refine ⟨kX12, rfl, ⟨by decide, by decide, by decide +kernel⟩, ?_, wiX12_walk, wvX12_walk, wIX12, wcX12_walk⟩
  rw [hM]; exact wmL_66
theorem wmL_67 : Cond.methodLink RL 67 yX11_rest ∈ sm_G := sm_in 625 (by decide +kernel) rfl
theorem wiX11_rest : Cond.instanceMethod yX11_rest ∈ sm_G := sm_in 626 (by decide +kernel) rfl
theorem wvX11_rest : Cond.selects RX11 yX11_rest yX11_rest ∈ sm_G := sm_in 627 (by decide +kernel) rfl
theorem wcX11_rest : Cond.code mX11_rest.1 mX11_rest.2.1 mX11_rest.2.2.1 mX11_rest.2.2.2 ∈ sm_G := sm_in 628 (by decide +kernel) rfl
theorem cvL_67 {M : sm_M} (hM : M.1.cls = RL) : sm_cV M mX11_rest 67 1 11 13 RX11 TX11 tyX11 := by
  refine ⟨kX11, rfl, ⟨by decide, by decide, by decide +kernel⟩, ?_, wiX11_rest, wvX11_rest, wIX11, wcX11_rest⟩
  rw [hM]; exact wmL_67
theorem wmL_70 : Cond.methodLink RL 70 yX12_rest ∈ sm_G := sm_in 1323 (by decide +kernel) rfl
theorem wiX12_rest : Cond.instanceMethod yX12_rest ∈ sm_G := sm_in 1324 (by decide +kernel) rfl
theorem wvX12_rest : Cond.selects RX12 yX12_rest yX12_rest ∈ sm_G := sm_in 1325 (by decide +kernel) rfl
theorem wcX12_rest : Cond.code mX12_rest.1 mX12_rest.2.1 mX12_rest.2.2.1 mX12_rest.2.2.2 ∈ sm_G := sm_in 1326 (by decide +kernel) rfl
theorem cvL_70 {M : sm_M} (hM : M.1.cls = RL) : sm_cV M mX12_rest 70 1 12 57 RX12 TX12 tyX12 := by
  refine ⟨kX12, rfl, ⟨by decide, by decide, by decide +kernel⟩, ?_, wiX12_rest, wvX12_rest, wIX12, wcX12_rest⟩
  rw [hM]; exact wmL_70
theorem wmL_71 : Cond.methodLink RL 71 yX11_undo ∈ sm_G := sm_in 629 (by decide +kernel) rfl
theorem wiX11_undo : Cond.instanceMethod yX11_undo ∈ sm_G := sm_in 630 (by decide +kernel) rfl
theorem wvX11_undo : Cond.selects RX11 yX11_undo yX11_undo ∈ sm_G := sm_in 631 (by decide +kernel) rfl
theorem wcX11_undo : Cond.code mX11_undo.1 mX11_undo.2.1 mX11_undo.2.2.1 mX11_undo.2.2.2 ∈ sm_G := sm_in 632 (by decide +kernel) rfl
theorem cvL_71 {M : sm_M} (hM : M.1.cls = RL) : sm_cV M mX11_undo 71 0 11 13 RX11 TX11 tyX11 := by
  refine ⟨kX11, rfl, ⟨by decide, by decide, by decide +kernel⟩, ?_, wiX11_undo, wvX11_undo, wIX11, wcX11_undo⟩
  rw [hM]; exact wmL_71
theorem wmL_74 : Cond.methodLink RL 74 yX12_undo ∈ sm_G := sm_in 1327 (by decide +kernel) rfl
theorem wiX12_undo : Cond.instanceMethod yX12_undo ∈ sm_G := sm_in 1328 (by decide +kernel) rfl
theorem wvX12_undo : Cond.selects RX12 yX12_undo yX12_undo ∈ sm_G := sm_in 1329 (by decide +kernel) rfl
theorem wcX12_undo : Cond.code mX12_undo.1 mX12_undo.2.1 mX12_undo.2.2.1 mX12_undo.2.2.2 ∈ sm_G := sm_in 1330 (by decide +kernel) rfl
theorem cvL_74 {M : sm_M} (hM : M.1.cls = RL) : sm_cV M mX12_undo 74 0 12 57 RX12 TX12 tyX12 := by
  refine ⟨kX12, rfl, ⟨by decide, by decide, by decide +kernel⟩, ?_, wiX12_undo, wvX12_undo, wIX12, wcX12_undo⟩
  rw [hM]; exact wmL_74
theorem wmL_75 : Cond.methodLink RL 75 yX11_go ∈ sm_G := sm_in 637 (by decide +kernel) rfl
theorem wiX11_go : Cond.instanceMethod yX11_go ∈ sm_G := sm_in 638 (by decide +kernel) rfl
theorem wvX11_go : Cond.selects RX11 yX11_go yX11_go ∈ sm_G := sm_in 639 (by decide +kernel) rfl
theorem wcX11_go : Cond.code mX11_go.1 mX11_go.2.1 mX11_go.2.2.1 mX11_go.2.2.2 ∈ sm_G := sm_in 640 (by decide +kernel) rfl
theorem cvL_75 {M : sm_M} (hM : M.1.cls = RL) : sm_cV M mX11_go 75 1 11 13 RX11 TX11 tyX11 := by
  refine ⟨kX11, rfl, ⟨by decide, by decide, by decide +kernel⟩, ?_, wiX11_go, wvX11_go, wIX11, wcX11_go⟩
  rw [hM]; exact wmL_75
theorem wmL_78 : Cond.methodLink RL 78 yX12_go ∈ sm_G := sm_in 1331 (by decide +kernel) rfl
theorem wiX12_go : Cond.instanceMethod yX12_go ∈ sm_G := sm_in 1332 (by decide +kernel) rfl
theorem wvX12_go : Cond.selects RX12 yX12_go yX12_go ∈ sm_G := sm_in 1333 (by decide +kernel) rfl
theorem wcX12_go : Cond.code mX12_go.1 mX12_go.2.1 mX12_go.2.2.1 mX12_go.2.2.2 ∈ sm_G := sm_in 1334 (by decide +kernel) rfl
theorem cvL_78 {M : sm_M} (hM : M.1.cls = RL) : sm_cV M mX12_go 78 1 12 57 RX12 TX12 tyX12 := by
  refine ⟨kX12, rfl, ⟨by decide, by decide, by decide +kernel⟩, ?_, wiX12_go, wvX12_go, wIX12, wcX12_go⟩
  rw [hM]; exact wmL_78
theorem wmL_79 : Cond.methodLink RL 79 yX11_can ∈ sm_G := sm_in 645 (by decide +kernel) rfl
theorem wiX11_can : Cond.instanceMethod yX11_can ∈ sm_G := sm_in 646 (by decide +kernel) rfl
theorem wvX11_can : Cond.selects RX11 yX11_can yX11_can ∈ sm_G := sm_in 647 (by decide +kernel) rfl
theorem wcX11_can : Cond.code mX11_can.1 mX11_can.2.1 mX11_can.2.2.1 mX11_can.2.2.2 ∈ sm_G := sm_in 648 (by decide +kernel) rfl
theorem cvL_79 {M : sm_M} (hM : M.1.cls = RL) : sm_cV M mX11_can 79 0 11 13 RX11 TX11 tyX11 := by
  refine ⟨kX11, rfl, ⟨by decide, by decide, by decide +kernel⟩, ?_, wiX11_can, wvX11_can, wIX11, wcX11_can⟩
  rw [hM]; exact wmL_79
theorem wmL_82 : Cond.methodLink RL 82 yX12_can ∈ sm_G := sm_in 1335 (by decide +kernel) rfl
theorem wiX12_can : Cond.instanceMethod yX12_can ∈ sm_G := sm_in 1336 (by decide +kernel) rfl
theorem wvX12_can : Cond.selects RX12 yX12_can yX12_can ∈ sm_G := sm_in 1337 (by decide +kernel) rfl
theorem wcX12_can : Cond.code mX12_can.1 mX12_can.2.1 mX12_can.2.2.1 mX12_can.2.2.2 ∈ sm_G := sm_in 1338 (by decide +kernel) rfl
theorem cvL_82 {M : sm_M} (hM : M.1.cls = RL) : sm_cV M mX12_can 82 0 12 57 RX12 TX12 tyX12 := by
  refine ⟨kX12, rfl, ⟨by decide, by decide, by decide +kernel⟩, ?_, wiX12_can, wvX12_can, wIX12, wcX12_can⟩
  rw [hM]; exact wmL_82
theorem wmL_83 : Cond.methodLink RL 83 yX11_tour ∈ sm_G := sm_in 649 (by decide +kernel) rfl
theorem wiX11_tour : Cond.instanceMethod yX11_tour ∈ sm_G := sm_in 650 (by decide +kernel) rfl
theorem wvX11_tour : Cond.selects RX11 yX11_tour yX11_tour ∈ sm_G := sm_in 651 (by decide +kernel) rfl
theorem wcX11_tour : Cond.code mX11_tour.1 mX11_tour.2.1 mX11_tour.2.2.1 mX11_tour.2.2.2 ∈ sm_G := sm_in 652 (by decide +kernel) rfl
theorem cvL_83 {M : sm_M} (hM : M.1.cls = RL) : sm_cV M mX11_tour 83 1 11 13 RX11 TX11 tyX11 := by
  refine ⟨kX11, rfl, ⟨by decide, by decide, by decide +kernel⟩, ?_, wiX11_tour, wvX11_tour, wIX11, wcX11_tour⟩
  rw [hM]; exact wmL_83
theorem wmL_86 : Cond.methodLink RL 86 yX12_tour ∈ sm_G := sm_in 1343 (by decide +kernel) rfl
theorem wiX12_tour : Cond.instanceMethod yX12_tour ∈ sm_G := sm_in 1344 (by decide +kernel) rfl
theorem wvX12_tour : Cond.selects RX12 yX12_tour yX12_tour ∈ sm_G := sm_in 1345 (by decide +kernel) rfl
theorem wcX12_tour : Cond.code mX12_tour.1 mX12_tour.2.1 mX12_tour.2.2.1 mX12_tour.2.2.2 ∈ sm_G := sm_in 1346 (by decide +kernel) rfl
theorem cvL_86 {M : sm_M} (hM : M.1.cls = RL) : sm_cV M mX12_tour 86 1 12 57 RX12 TX12 tyX12 := by
  refine ⟨kX12, rfl, ⟨by decide, by decide, by decide +kernel⟩, ?_, wiX12_tour, wvX12_tour, wIX12, wcX12_tour⟩
  rw [hM]; exact wmL_86
theorem wmL_87 : Cond.methodLink RL 87 yX11_look ∈ sm_G := sm_in 686 (by decide +kernel) rfl
theorem wiX11_look : Cond.instanceMethod yX11_look ∈ sm_G := sm_in 687 (by decide +kernel) rfl
theorem wvX11_look : Cond.selects RX11 yX11_look yX11_look ∈ sm_G := sm_in 688 (by decide +kernel) rfl
theorem wcX11_look : Cond.code mX11_look.1 mX11_look.2.1 mX11_look.2.2.1 mX11_look.2.2.2 ∈ sm_G := sm_in 689 (by decide +kernel) rfl
theorem cvL_87 {M : sm_M} (hM : M.1.cls = RL) : sm_cV M mX11_look 87 1 11 13 RX11 TX11 tyX11 := by
  refine ⟨kX11, rfl, ⟨by decide, by decide, by decide +kernel⟩, ?_, wiX11_look, wvX11_look, wIX11, wcX11_look⟩
  rw [hM]; exact wmL_87
theorem wmL_90 : Cond.methodLink RL 90 yX12_look ∈ sm_G := sm_in 1351 (by decide +kernel) rfl
theorem wiX12_look : Cond.instanceMethod yX12_look ∈ sm_G := sm_in 1352 (by decide +kernel) rfl
theorem wvX12_look : Cond.selects RX12 yX12_look yX12_look ∈ sm_G := sm_in 1353 (by decide +kernel) rfl
theorem wcX12_look : Cond.code mX12_look.1 mX12_look.2.1 mX12_look.2.2.1 mX12_look.2.2.2 ∈ sm_G := sm_in 1354 (by decide +kernel) rfl
theorem cvL_90 {M : sm_M} (hM : M.1.cls = RL) : sm_cV M mX12_look 90 1 12 57 RX12 TX12 tyX12 := by
  refine ⟨kX12, rfl, ⟨by decide, by decide, by decide +kernel⟩, ?_, wiX12_look, wvX12_look, wIX12, wcX12_look⟩
  rw [hM]; exact wmL_90
theorem wmL_91 : Cond.methodLink RL 91 yX11_meets ∈ sm_G := sm_in 694 (by decide +kernel) rfl
theorem wiX11_meets : Cond.instanceMethod yX11_meets ∈ sm_G := sm_in 695 (by decide +kernel) rfl
theorem wvX11_meets : Cond.selects RX11 yX11_meets yX11_meets ∈ sm_G := sm_in 696 (by decide +kernel) rfl
theorem wcX11_meets : Cond.code mX11_meets.1 mX11_meets.2.1 mX11_meets.2.2.1 mX11_meets.2.2.2 ∈ sm_G := sm_in 697 (by decide +kernel) rfl
theorem cvL_91 {M : sm_M} (hM : M.1.cls = RL) : sm_cV M mX11_meets 91 1 11 13 RX11 TX11 tyX11 := by
  refine ⟨kX11, rfl, ⟨by decide, by decide, by decide +kernel⟩, ?_, wiX11_meets, wvX11_meets, wIX11, wcX11_meets⟩
  rw [hM]; exact wmL_91
theorem wmL_94 : Cond.methodLink RL 94 yX12_meets ∈ sm_G := sm_in 1363 (by decide +kernel) rfl
theorem wiX12_meets : Cond.instanceMethod yX12_meets ∈ sm_G := sm_in 1364 (by decide +kernel) rfl
theorem wvX12_meets : Cond.selects RX12 yX12_meets yX12_meets ∈ sm_G := sm_in 1365 (by decide +kernel) rfl
theorem wcX12_meets : Cond.code mX12_meets.1 mX12_meets.2.1 mX12_meets.2.2.1 mX12_meets.2.2.2 ∈ sm_G := sm_in 1366 (by decide +kernel) rfl
theorem cvL_94 {M : sm_M} (hM : M.1.cls = RL) : sm_cV M mX12_meets 94 1 12 57 RX12 TX12 tyX12 := by
  refine ⟨kX12, rfl, ⟨by decide, by decide, by decide +kernel⟩, ?_, wiX12_meets, wvX12_meets, wIX12, wcX12_meets⟩
  rw [hM]; exact wmL_94
theorem wmL_95 : Cond.methodLink RL 95 yX11_apart ∈ sm_G := sm_in 711 (by decide +kernel) rfl
theorem wiX11_apart : Cond.instanceMethod yX11_apart ∈ sm_G := sm_in 712 (by decide +kernel) rfl
theorem wvX11_apart : Cond.selects RX11 yX11_apart yX11_apart ∈ sm_G := sm_in 713 (by decide +kernel) rfl
theorem wcX11_apart : Cond.code mX11_apart.1 mX11_apart.2.1 mX11_apart.2.2.1 mX11_apart.2.2.2 ∈ sm_G := sm_in 714 (by decide +kernel) rfl
theorem cvL_95 {M : sm_M} (hM : M.1.cls = RL) : sm_cV M mX11_apart 95 0 11 13 RX11 TX11 tyX11 := by
  refine ⟨kX11, rfl, ⟨by decide, by decide, by decide +kernel⟩, ?_, wiX11_apart, wvX11_apart, wIX11, wcX11_apart⟩
  rw [hM]; exact wmL_95
theorem wmL_98 : Cond.methodLink RL 98 yX12_apart ∈ sm_G := sm_in 1375 (by decide +kernel) rfl
theorem wiX12_apart : Cond.instanceMethod yX12_apart ∈ sm_G := sm_in 1376 (by decide +kernel) rfl
theorem wvX12_apart : Cond.selects RX12 yX12_apart yX12_apart ∈ sm_G := sm_in 1377 (by decide +kernel) rfl
theorem wcX12_apart : Cond.code mX12_apart.1 mX12_apart.2.1 mX12_apart.2.2.1 mX12_apart.2.2.2 ∈ sm_G := sm_in 1378 (by decide +kernel) rfl
theorem cvL_98 {M : sm_M} (hM : M.1.cls = RL) : sm_cV M mX12_apart 98 0 12 57 RX12 TX12 tyX12 := by
  refine ⟨kX12, rfl, ⟨by decide, by decide, by decide +kernel⟩, ?_, wiX12_apart, wvX12_apart, wIX12, wcX12_apart⟩
  rw [hM]; exact wmL_98
theorem wmL_99 : Cond.methodLink RL 99 yX11_season ∈ sm_G := sm_in 715 (by decide +kernel) rfl
theorem wiX11_season : Cond.instanceMethod yX11_season ∈ sm_G := sm_in 716 (by decide +kernel) rfl
theorem wvX11_season : Cond.selects RX11 yX11_season yX11_season ∈ sm_G := sm_in 717 (by decide +kernel) rfl
theorem wcX11_season : Cond.code mX11_season.1 mX11_season.2.1 mX11_season.2.2.1 mX11_season.2.2.2 ∈ sm_G := sm_in 718 (by decide +kernel) rfl
theorem cvL_99 {M : sm_M} (hM : M.1.cls = RL) : sm_cV M mX11_season 99 1 11 13 RX11 TX11 tyX11 := by
  refine ⟨kX11, rfl, ⟨by decide, by decide, by decide +kernel⟩, ?_, wiX11_season, wvX11_season, wIX11, wcX11_season⟩
  rw [hM]; exact wmL_99
theorem wmL_102 : Cond.methodLink RL 102 yX12_season ∈ sm_G := sm_in 1379 (by decide +kernel) rfl
theorem wiX12_season : Cond.instanceMethod yX12_season ∈ sm_G := sm_in 1380 (by decide +kernel) rfl
theorem wvX12_season : Cond.selects RX12 yX12_season yX12_season ∈ sm_G := sm_in 1381 (by decide +kernel) rfl
theorem wcX12_season : Cond.code mX12_season.1 mX12_season.2.1 mX12_season.2.2.1 mX12_season.2.2.2 ∈ sm_G := sm_in 1382 (by decide +kernel) rfl
theorem cvL_102 {M : sm_M} (hM : M.1.cls = RL) : sm_cV M mX12_season 102 1 12 57 RX12 TX12 tyX12 := by
  refine ⟨kX12, rfl, ⟨by decide, by decide, by decide +kernel⟩, ?_, wiX12_season, wvX12_season, wIX12, wcX12_season⟩
  rw [hM]; exact wmL_102
theorem wmL_103 : Cond.methodLink RL 103 yX11_odd ∈ sm_G := sm_in 734 (by decide +kernel) rfl
theorem wiX11_odd : Cond.instanceMethod yX11_odd ∈ sm_G := sm_in 735 (by decide +kernel) rfl
theorem wvX11_odd : Cond.selects RX11 yX11_odd yX11_odd ∈ sm_G := sm_in 736 (by decide +kernel) rfl
theorem wcX11_odd : Cond.code mX11_odd.1 mX11_odd.2.1 mX11_odd.2.2.1 mX11_odd.2.2.2 ∈ sm_G := sm_in 737 (by decide +kernel) rfl
theorem cvL_103 {M : sm_M} (hM : M.1.cls = RL) : sm_cV M mX11_odd 103 0 11 13 RX11 TX11 tyX11 := by
  refine ⟨kX11, rfl, ⟨by decide, by decide, by decide +kernel⟩, ?_, wiX11_odd, wvX11_odd, wIX11, wcX11_odd⟩
  rw [hM]; exact wmL_103
theorem wmL_106 : Cond.methodLink RL 106 yX12_odd ∈ sm_G := sm_in 1388 (by decide +kernel) rfl
theorem wiX12_odd : Cond.instanceMethod yX12_odd ∈ sm_G := sm_in 1389 (by decide +kernel) rfl
theorem wvX12_odd : Cond.selects RX12 yX12_odd yX12_odd ∈ sm_G := sm_in 1390 (by decide +kernel) rfl
theorem wcX12_odd : Cond.code mX12_odd.1 mX12_odd.2.1 mX12_odd.2.2.1 mX12_odd.2.2.2 ∈ sm_G := sm_in 1391 (by decide +kernel) rfl
theorem cvL_106 {M : sm_M} (hM : M.1.cls = RL) : sm_cV M mX12_odd 106 0 12 57 RX12 TX12 tyX12 := by
  refine ⟨kX12, rfl, ⟨by decide, by decide, by decide +kernel⟩, ?_, wiX12_odd, wvX12_odd, wIX12, wcX12_odd⟩
  rw [hM]; exact wmL_106
theorem wmL_107 : Cond.methodLink RL 107 yX11_men ∈ sm_G := sm_in 756 (by decide +kernel) rfl
theorem wiX11_men : Cond.instanceMethod yX11_men ∈ sm_G := sm_in 757 (by decide +kernel) rfl
theorem wvX11_men : Cond.selects RX11 yX11_men yX11_men ∈ sm_G := sm_in 758 (by decide +kernel) rfl
theorem wcX11_men : Cond.code mX11_men.1 mX11_men.2.1 mX11_men.2.2.1 mX11_men.2.2.2 ∈ sm_G := sm_in 759 (by decide +kernel) rfl
theorem cvL_107 {M : sm_M} (hM : M.1.cls = RL) : sm_cV M mX11_men 107 0 11 13 RX11 TX11 tyX11 := by
  refine ⟨kX11, rfl, ⟨by decide, by decide, by decide +kernel⟩, ?_, wiX11_men, wvX11_men, wIX11, wcX11_men⟩
  rw [hM]; exact wmL_107
theorem wmL_110 : Cond.methodLink RL 110 yX12_men ∈ sm_G := sm_in 1401 (by decide +kernel) rfl
theorem wiX12_men : Cond.instanceMethod yX12_men ∈ sm_G := sm_in 1402 (by decide +kernel) rfl
theorem wvX12_men : Cond.selects RX12 yX12_men yX12_men ∈ sm_G := sm_in 1403 (by decide +kernel) rfl
theorem wcX12_men : Cond.code mX12_men.1 mX12_men.2.1 mX12_men.2.2.1 mX12_men.2.2.2 ∈ sm_G := sm_in 1404 (by decide +kernel) rfl
theorem cvL_110 {M : sm_M} (hM : M.1.cls = RL) : sm_cV M mX12_men 110 0 12 57 RX12 TX12 tyX12 := by
  refine ⟨kX12, rfl, ⟨by decide, by decide, by decide +kernel⟩, ?_, wiX12_men, wvX12_men, wIX12, wcX12_men⟩
  rw [hM]; exact wmL_110
theorem wmL_111 : Cond.methodLink RL 111 yX11_trail ∈ sm_G := sm_in 764 (by decide +kernel) rfl
theorem wiX11_trail : Cond.instanceMethod yX11_trail ∈ sm_G := sm_in 765 (by decide +kernel) rfl
theorem wvX11_trail : Cond.selects RX11 yX11_trail yX11_trail ∈ sm_G := sm_in 766 (by decide +kernel) rfl
theorem wcX11_trail : Cond.code mX11_trail.1 mX11_trail.2.1 mX11_trail.2.2.1 mX11_trail.2.2.2 ∈ sm_G := sm_in 767 (by decide +kernel) rfl
theorem cvL_111 {M : sm_M} (hM : M.1.cls = RL) : sm_cV M mX11_trail 111 1 11 13 RX11 TX11 tyX11 := by
  refine ⟨kX11, rfl, ⟨by decide, by decide, by decide +kernel⟩, ?_, wiX11_trail, wvX11_trail, wIX11, wcX11_trail⟩
  rw [hM]; exact wmL_111
theorem wmL_114 : Cond.methodLink RL 114 yX12_trail ∈ sm_G := sm_in 1413 (by decide +kernel) rfl
theorem wiX12_trail : Cond.instanceMethod yX12_trail ∈ sm_G := sm_in 1414 (by decide +kernel) rfl
theorem wvX12_trail : Cond.selects RX12 yX12_trail yX12_trail ∈ sm_G := sm_in 1415 (by decide +kernel) rfl
theorem wcX12_trail : Cond.code mX12_trail.1 mX12_trail.2.1 mX12_trail.2.2.1 mX12_trail.2.2.2 ∈ sm_G := sm_in 1416 (by decide +kernel) rfl
theorem cvL_114 {M : sm_M} (hM : M.1.cls = RL) : sm_cV M mX12_trail 114 1 12 57 RX12 TX12 tyX12 := by
  refine ⟨kX12, rfl, ⟨by decide, by decide, by decide +kernel⟩, ?_, wiX12_trail, wvX12_trail, wIX12, wcX12_trail⟩
  rw [hM]; exact wmL_114
theorem wmL_115 : Cond.methodLink RL 115 yX11_round ∈ sm_G := sm_in 793 (by decide +kernel) rfl
theorem wiX11_round : Cond.instanceMethod yX11_round ∈ sm_G := sm_in 794 (by decide +kernel) rfl
theorem wvX11_round : Cond.selects RX11 yX11_round yX11_round ∈ sm_G := sm_in 795 (by decide +kernel) rfl
theorem wcX11_round : Cond.code mX11_round.1 mX11_round.2.1 mX11_round.2.2.1 mX11_round.2.2.2 ∈ sm_G := sm_in 796 (by decide +kernel) rfl
theorem cvL_115 {M : sm_M} (hM : M.1.cls = RL) : sm_cV M mX11_round 115 0 11 13 RX11 TX11 tyX11 := by
  refine ⟨kX11, rfl, ⟨by decide, by decide, by decide +kernel⟩, ?_, wiX11_round, wvX11_round, wIX11, wcX11_round⟩
  rw [hM]; exact wmL_115
theorem wmL_118 : Cond.methodLink RL 118 yX12_round ∈ sm_G := sm_in 1421 (by decide +kernel) rfl
theorem wiX12_round : Cond.instanceMethod yX12_round ∈ sm_G := sm_in 1422 (by decide +kernel) rfl
theorem wvX12_round : Cond.selects RX12 yX12_round yX12_round ∈ sm_G := sm_in 1423 (by decide +kernel) rfl
theorem wcX12_round : Cond.code mX12_round.1 mX12_round.2.1 mX12_round.2.2.1 mX12_round.2.2.2 ∈ sm_G := sm_in 1424 (by decide +kernel) rfl
theorem cvL_118 {M : sm_M} (hM : M.1.cls = RL) : sm_cV M mX12_round 118 0 12 57 RX12 TX12 tyX12 := by
  refine ⟨kX12, rfl, ⟨by decide, by decide, by decide +kernel⟩, ?_, wiX12_round, wvX12_round, wIX12, wcX12_round⟩
  rw [hM]; exact wmL_118
theorem wmL_119 : Cond.methodLink RL 119 yX11_closed ∈ sm_G := sm_in 821 (by decide +kernel) rfl
theorem wiX11_closed : Cond.instanceMethod yX11_closed ∈ sm_G := sm_in 822 (by decide +kernel) rfl
theorem wvX11_closed : Cond.selects RX11 yX11_closed yX11_closed ∈ sm_G := sm_in 823 (by decide +kernel) rfl
theorem wcX11_closed : Cond.code mX11_closed.1 mX11_closed.2.1 mX11_closed.2.2.1 mX11_closed.2.2.2 ∈ sm_G := sm_in 824 (by decide +kernel) rfl
theorem cvL_119 {M : sm_M} (hM : M.1.cls = RL) : sm_cV M mX11_closed 119 0 11 13 RX11 TX11 tyX11 := by
  refine ⟨kX11, rfl, ⟨by decide, by decide, by decide +kernel⟩, ?_, wiX11_closed, wvX11_closed, wIX11, wcX11_closed⟩
  rw [hM]; exact wmL_119
theorem wmL_122 : Cond.methodLink RL 122 yX12_closed ∈ sm_G := sm_in 1433 (by decide +kernel) rfl
theorem wiX12_closed : Cond.instanceMethod yX12_closed ∈ sm_G := sm_in 1434 (by decide +kernel) rfl
theorem wvX12_closed : Cond.selects RX12 yX12_closed yX12_closed ∈ sm_G := sm_in 1435 (by decide +kernel) rfl
theorem wcX12_closed : Cond.code mX12_closed.1 mX12_closed.2.1 mX12_closed.2.2.1 mX12_closed.2.2.2 ∈ sm_G := sm_in 1436 (by decide +kernel) rfl
theorem cvL_122 {M : sm_M} (hM : M.1.cls = RL) : sm_cV M mX12_closed 122 0 12 57 RX12 TX12 tyX12 := by
  refine ⟨kX12, rfl, ⟨by decide, by decide, by decide +kernel⟩, ?_, wiX12_closed, wvX12_closed, wIX12, wcX12_closed⟩
  rw [hM]; exact wmL_122
theorem wmL_123 : Cond.methodLink RL 123 yX11_open ∈ sm_G := sm_in 864 (by decide +kernel) rfl
theorem wiX11_open : Cond.instanceMethod yX11_open ∈ sm_G := sm_in 865 (by decide +kernel) rfl
theorem wvX11_open : Cond.selects RX11 yX11_open yX11_open ∈ sm_G := sm_in 866 (by decide +kernel) rfl
theorem wcX11_open : Cond.code mX11_open.1 mX11_open.2.1 mX11_open.2.2.1 mX11_open.2.2.2 ∈ sm_G := sm_in 867 (by decide +kernel) rfl
theorem cvL_123 {M : sm_M} (hM : M.1.cls = RL) : sm_cV M mX11_open 123 0 11 13 RX11 TX11 tyX11 := by
  refine ⟨kX11, rfl, ⟨by decide, by decide, by decide +kernel⟩, ?_, wiX11_open, wvX11_open, wIX11, wcX11_open⟩
  rw [hM]; exact wmL_123
theorem wmL_126 : Cond.methodLink RL 126 yX12_open ∈ sm_G := sm_in 1453 (by decide +kernel) rfl
theorem wiX12_open : Cond.instanceMethod yX12_open ∈ sm_G := sm_in 1454 (by decide +kernel) rfl
theorem wvX12_open : Cond.selects RX12 yX12_open yX12_open ∈ sm_G := sm_in 1455 (by decide +kernel) rfl
theorem wcX12_open : Cond.code mX12_open.1 mX12_open.2.1 mX12_open.2.2.1 mX12_open.2.2.2 ∈ sm_G := sm_in 1456 (by decide +kernel) rfl
theorem cvL_126 {M : sm_M} (hM : M.1.cls = RL) : sm_cV M mX12_open 126 0 12 57 RX12 TX12 tyX12 := by
  refine ⟨kX12, rfl, ⟨by decide, by decide, by decide +kernel⟩, ?_, wiX12_open, wvX12_open, wIX12, wcX12_open⟩
  rw [hM]; exact wmL_126
theorem wmL_127 : Cond.methodLink RL 127 yX11_most ∈ sm_G := sm_in 868 (by decide +kernel) rfl
theorem wiX11_most : Cond.instanceMethod yX11_most ∈ sm_G := sm_in 869 (by decide +kernel) rfl
theorem wvX11_most : Cond.selects RX11 yX11_most yX11_most ∈ sm_G := sm_in 870 (by decide +kernel) rfl
theorem wcX11_most : Cond.code mX11_most.1 mX11_most.2.1 mX11_most.2.2.1 mX11_most.2.2.2 ∈ sm_G := sm_in 871 (by decide +kernel) rfl
theorem cvL_127 {M : sm_M} (hM : M.1.cls = RL) : sm_cV M mX11_most 127 2 11 13 RX11 TX11 tyX11 := by
  refine ⟨kX11, rfl, ⟨by decide, by decide, by decide +kernel⟩, ?_, wiX11_most, wvX11_most, wIX11, wcX11_most⟩
  rw [hM]; exact wmL_127
theorem wmL_130 : Cond.methodLink RL 130 yX12_most ∈ sm_G := sm_in 1457 (by decide +kernel) rfl
theorem wiX12_most : Cond.instanceMethod yX12_most ∈ sm_G := sm_in 1458 (by decide +kernel) rfl
theorem wvX12_most : Cond.selects RX12 yX12_most yX12_most ∈ sm_G := sm_in 1459 (by decide +kernel) rfl
theorem wcX12_most : Cond.code mX12_most.1 mX12_most.2.1 mX12_most.2.2.1 mX12_most.2.2.2 ∈ sm_G := sm_in 1460 (by decide +kernel) rfl
theorem cvL_130 {M : sm_M} (hM : M.1.cls = RL) : sm_cV M mX12_most 130 2 12 57 RX12 TX12 tyX12 := by
  refine ⟨kX12, rfl, ⟨by decide, by decide, by decide +kernel⟩, ?_, wiX12_most, wvX12_most, wIX12, wcX12_most⟩
  rw [hM]; exact wmL_130
theorem wmL_131 : Cond.methodLink RL 131 yX11_home ∈ sm_G := sm_in 908 (by decide +kernel) rfl
theorem wiX11_home : Cond.instanceMethod yX11_home ∈ sm_G := sm_in 909 (by decide +kernel) rfl
theorem wvX11_home : Cond.selects RX11 yX11_home yX11_home ∈ sm_G := sm_in 910 (by decide +kernel) rfl
theorem wcX11_home : Cond.code mX11_home.1 mX11_home.2.1 mX11_home.2.2.1 mX11_home.2.2.2 ∈ sm_G := sm_in 911 (by decide +kernel) rfl
theorem cvL_131 {M : sm_M} (hM : M.1.cls = RL) : sm_cV M mX11_home 131 2 11 13 RX11 TX11 tyX11 := by
  refine ⟨kX11, rfl, ⟨by decide, by decide, by decide +kernel⟩, ?_, wiX11_home, wvX11_home, wIX11, wcX11_home⟩
  rw [hM]; exact wmL_131
theorem wmL_134 : Cond.methodLink RL 134 yX12_home ∈ sm_G := sm_in 1478 (by decide +kernel) rfl
theorem wiX12_home : Cond.instanceMethod yX12_home ∈ sm_G := sm_in 1479 (by decide +kernel) rfl
theorem wvX12_home : Cond.selects RX12 yX12_home yX12_home ∈ sm_G := sm_in 1480 (by decide +kernel) rfl
theorem wcX12_home : Cond.code mX12_home.1 mX12_home.2.1 mX12_home.2.2.1 mX12_home.2.2.2 ∈ sm_G := sm_in 1481 (by decide +kernel) rfl
theorem cvL_134 {M : sm_M} (hM : M.1.cls = RL) : sm_cV M mX12_home 134 2 12 57 RX12 TX12 tyX12 := by
  refine ⟨kX12, rfl, ⟨by decide, by decide, by decide +kernel⟩, ?_, wiX12_home, wvX12_home, wIX12, wcX12_home⟩
  rw [hM]; exact wmL_134
theorem wmL_135 : Cond.methodLink RL 135 yX11_soon ∈ sm_G := sm_in 912 (by decide +kernel) rfl
theorem wiX11_soon : Cond.instanceMethod yX11_soon ∈ sm_G := sm_in 913 (by decide +kernel) rfl
theorem wvX11_soon : Cond.selects RX11 yX11_soon yX11_soon ∈ sm_G := sm_in 914 (by decide +kernel) rfl
theorem wcX11_soon : Cond.code mX11_soon.1 mX11_soon.2.1 mX11_soon.2.2.1 mX11_soon.2.2.2 ∈ sm_G := sm_in 915 (by decide +kernel) rfl
theorem cvL_135 {M : sm_M} (hM : M.1.cls = RL) : sm_cV M mX11_soon 135 2 11 13 RX11 TX11 tyX11 := by
  refine ⟨kX11, rfl, ⟨by decide, by decide, by decide +kernel⟩, ?_, wiX11_soon, wvX11_soon, wIX11, wcX11_soon⟩
  rw [hM]; exact wmL_135
theorem wmL_138 : Cond.methodLink RL 138 yX12_soon ∈ sm_G := sm_in 1482 (by decide +kernel) rfl
theorem wiX12_soon : Cond.instanceMethod yX12_soon ∈ sm_G := sm_in 1483 (by decide +kernel) rfl
theorem wvX12_soon : Cond.selects RX12 yX12_soon yX12_soon ∈ sm_G := sm_in 1484 (by decide +kernel) rfl
theorem wcX12_soon : Cond.code mX12_soon.1 mX12_soon.2.1 mX12_soon.2.2.1 mX12_soon.2.2.2 ∈ sm_G := sm_in 1485 (by decide +kernel) rfl
theorem cvL_138 {M : sm_M} (hM : M.1.cls = RL) : sm_cV M mX12_soon 138 2 12 57 RX12 TX12 tyX12 := by
  refine ⟨kX12, rfl, ⟨by decide, by decide, by decide +kernel⟩, ?_, wiX12_soon, wvX12_soon, wIX12, wcX12_soon⟩
  rw [hM]; exact wmL_138
theorem wmL_139 : Cond.methodLink RL 139 yX11_bridges ∈ sm_G := sm_in 920 (by decide +kernel) rfl
theorem wiX11_bridges : Cond.instanceMethod yX11_bridges ∈ sm_G := sm_in 921 (by decide +kernel) rfl
theorem wvX11_bridges : Cond.selects RX11 yX11_bridges yX11_bridges ∈ sm_G := sm_in 922 (by decide +kernel) rfl
theorem wcX11_bridges : Cond.code mX11_bridges.1 mX11_bridges.2.1 mX11_bridges.2.2.1 mX11_bridges.2.2.2 ∈ sm_G := sm_in 923 (by decide +kernel) rfl
theorem cvL_139 {M : sm_M} (hM : M.1.cls = RL) : sm_cV M mX11_bridges 139 0 11 13 RX11 TX11 tyX11 := by
  refine ⟨kX11, rfl, ⟨by decide, by decide, by decide +kernel⟩, ?_, wiX11_bridges, wvX11_bridges, wIX11, wcX11_bridges⟩
  rw [hM]; exact wmL_139
theorem wmL_142 : Cond.methodLink RL 142 yX12_bridges ∈ sm_G := sm_in 1487 (by decide +kernel) rfl
theorem wiX12_bridges : Cond.instanceMethod yX12_bridges ∈ sm_G := sm_in 1488 (by decide +kernel) rfl
theorem wvX12_bridges : Cond.selects RX12 yX12_bridges yX12_bridges ∈ sm_G := sm_in 1489 (by decide +kernel) rfl
theorem wcX12_bridges : Cond.code mX12_bridges.1 mX12_bridges.2.1 mX12_bridges.2.2.1 mX12_bridges.2.2.2 ∈ sm_G := sm_in 1490 (by decide +kernel) rfl
theorem cvL_142 {M : sm_M} (hM : M.1.cls = RL) : sm_cV M mX12_bridges 142 0 12 57 RX12 TX12 tyX12 := by
  refine ⟨kX12, rfl, ⟨by decide, by decide, by decide +kernel⟩, ?_, wiX12_bridges, wvX12_bridges, wIX12, wcX12_bridges⟩
  rw [hM]; exact wmL_142
theorem wmL_143 : Cond.methodLink RL 143 yL_reach ∈ sm_G := sm_in 1161 (by decide +kernel) rfl
theorem wsL_reach : Cond.static yL_reach ∈ sm_G := sm_in 1162 (by decide +kernel) rfl
theorem wmL_146 : Cond.methodLink RL 146 yX12_reach ∈ sm_G := sm_in 1491 (by decide +kernel) rfl
theorem wiX12_reach : Cond.instanceMethod yX12_reach ∈ sm_G := sm_in 1492 (by decide +kernel) rfl
theorem wvX12_reach : Cond.selects RX12 yX12_reach yX12_reach ∈ sm_G := sm_in 1493 (by decide +kernel) rfl
theorem wcX12_reach : Cond.code mX12_reach.1 mX12_reach.2.1 mX12_reach.2.2.1 mX12_reach.2.2.2 ∈ sm_G := sm_in 1494 (by decide +kernel) rfl
theorem cvL_146 {M : sm_M} (hM : M.1.cls = RL) : sm_cV M mX12_reach 146 1 12 57 RX12 TX12 tyX12 := by
  refine ⟨kX12, rfl, ⟨by decide, by decide, by decide +kernel⟩, ?_, wiX12_reach, wvX12_reach, wIX12, wcX12_reach⟩
  rw [hM]; exact wmL_146
theorem wmL_147 : Cond.methodLink RL 147 yX11_gates ∈ sm_G := sm_in 924 (by decide +kernel) rfl
theorem wiX11_gates : Cond.instanceMethod yX11_gates ∈ sm_G := sm_in 925 (by decide +kernel) rfl
theorem wvX11_gates : Cond.selects RX11 yX11_gates yX11_gates ∈ sm_G := sm_in 926 (by decide +kernel) rfl
theorem wcX11_gates : Cond.code mX11_gates.1 mX11_gates.2.1 mX11_gates.2.2.1 mX11_gates.2.2.2 ∈ sm_G := sm_in 927 (by decide +kernel) rfl
theorem cvL_147 {M : sm_M} (hM : M.1.cls = RL) : sm_cV M mX11_gates 147 1 11 13 RX11 TX11 tyX11 := by
  refine ⟨kX11, rfl, ⟨by decide, by decide, by decide +kernel⟩, ?_, wiX11_gates, wvX11_gates, wIX11, wcX11_gates⟩
  rw [hM]; exact wmL_147
theorem wmL_150 : Cond.methodLink RL 150 yX12_gates ∈ sm_G := sm_in 1496 (by decide +kernel) rfl
theorem wiX12_gates : Cond.instanceMethod yX12_gates ∈ sm_G := sm_in 1497 (by decide +kernel) rfl
theorem wvX12_gates : Cond.selects RX12 yX12_gates yX12_gates ∈ sm_G := sm_in 1498 (by decide +kernel) rfl
theorem wcX12_gates : Cond.code mX12_gates.1 mX12_gates.2.1 mX12_gates.2.2.1 mX12_gates.2.2.2 ∈ sm_G := sm_in 1499 (by decide +kernel) rfl
theorem cvL_150 {M : sm_M} (hM : M.1.cls = RL) : sm_cV M mX12_gates 150 1 12 57 RX12 TX12 tyX12 := by
  refine ⟨kX12, rfl, ⟨by decide, by decide, by decide +kernel⟩, ?_, wiX12_gates, wvX12_gates, wIX12, wcX12_gates⟩
  rw [hM]; exact wmL_150
theorem wmL_151 : Cond.methodLink RL 151 yX11_heard ∈ sm_G := sm_in 981 (by decide +kernel) rfl
theorem wiX11_heard : Cond.instanceMethod yX11_heard ∈ sm_G := sm_in 982 (by decide +kernel) rfl
theorem wvX11_heard : Cond.selects RX11 yX11_heard yX11_heard ∈ sm_G := sm_in 983 (by decide +kernel) rfl
theorem wcX11_heard : Cond.code mX11_heard.1 mX11_heard.2.1 mX11_heard.2.2.1 mX11_heard.2.2.2 ∈ sm_G := sm_in 984 (by decide +kernel) rfl
theorem cvL_151 {M : sm_M} (hM : M.1.cls = RL) : sm_cV M mX11_heard 151 2 11 13 RX11 TX11 tyX11 := by
  refine ⟨kX11, rfl, ⟨by decide, by decide, by decide +kernel⟩, ?_, wiX11_heard, wvX11_heard, wIX11, wcX11_heard⟩
  rw [hM]; exact wmL_151
theorem wmL_154 : Cond.methodLink RL 154 yX12_heard ∈ sm_G := sm_in 1532 (by decide +kernel) rfl
theorem wiX12_heard : Cond.instanceMethod yX12_heard ∈ sm_G := sm_in 1533 (by decide +kernel) rfl
theorem wvX12_heard : Cond.selects RX12 yX12_heard yX12_heard ∈ sm_G := sm_in 1534 (by decide +kernel) rfl
theorem wcX12_heard : Cond.code mX12_heard.1 mX12_heard.2.1 mX12_heard.2.2.1 mX12_heard.2.2.2 ∈ sm_G := sm_in 1535 (by decide +kernel) rfl
theorem cvL_154 {M : sm_M} (hM : M.1.cls = RL) : sm_cV M mX12_heard 154 2 12 57 RX12 TX12 tyX12 := by
  refine ⟨kX12, rfl, ⟨by decide, by decide, by decide +kernel⟩, ?_, wiX12_heard, wvX12_heard, wIX12, wcX12_heard⟩
  rw [hM]; exact wmL_154
theorem wmL_155 : Cond.methodLink RL 155 yX11_forget ∈ sm_G := sm_in 989 (by decide +kernel) rfl
theorem wiX11_forget : Cond.instanceMethod yX11_forget ∈ sm_G := sm_in 990 (by decide +kernel) rfl
theorem wvX11_forget : Cond.selects RX11 yX11_forget yX11_forget ∈ sm_G := sm_in 991 (by decide +kernel) rfl
theorem wcX11_forget : Cond.code mX11_forget.1 mX11_forget.2.1 mX11_forget.2.2.1 mX11_forget.2.2.2 ∈ sm_G := sm_in 992 (by decide +kernel) rfl
theorem cvL_155 {M : sm_M} (hM : M.1.cls = RL) : sm_cV M mX11_forget 155 0 11 13 RX11 TX11 tyX11 := by
  refine ⟨kX11, rfl, ⟨by decide, by decide, by decide +kernel⟩, ?_, wiX11_forget, wvX11_forget, wIX11, wcX11_forget⟩
  rw [hM]; exact wmL_155
theorem wmL_158 : Cond.methodLink RL 158 yX12_forget ∈ sm_G := sm_in 1537 (by decide +kernel) rfl
theorem wiX12_forget : Cond.instanceMethod yX12_forget ∈ sm_G := sm_in 1538 (by decide +kernel) rfl
theorem wvX12_forget : Cond.selects RX12 yX12_forget yX12_forget ∈ sm_G := sm_in 1539 (by decide +kernel) rfl
theorem wcX12_forget : Cond.code mX12_forget.1 mX12_forget.2.1 mX12_forget.2.2.1 mX12_forget.2.2.2 ∈ sm_G := sm_in 1540 (by decide +kernel) rfl
theorem cvL_158 {M : sm_M} (hM : M.1.cls = RL) : sm_cV M mX12_forget 158 0 12 57 RX12 TX12 tyX12 := by
  refine ⟨kX12, rfl, ⟨by decide, by decide, by decide +kernel⟩, ?_, wiX12_forget, wvX12_forget, wIX12, wcX12_forget⟩
  rw [hM]; exact wmL_158
theorem wmL_159 : Cond.methodLink RL 159 yX11_lands ∈ sm_G := sm_in 993 (by decide +kernel) rfl
theorem wiX11_lands : Cond.instanceMethod yX11_lands ∈ sm_G := sm_in 994 (by decide +kernel) rfl
theorem wvX11_lands : Cond.selects RX11 yX11_lands yX11_lands ∈ sm_G := sm_in 995 (by decide +kernel) rfl
theorem wcX11_lands : Cond.code mX11_lands.1 mX11_lands.2.1 mX11_lands.2.2.1 mX11_lands.2.2.2 ∈ sm_G := sm_in 996 (by decide +kernel) rfl
theorem cvL_159 {M : sm_M} (hM : M.1.cls = RL) : sm_cV M mX11_lands 159 0 11 13 RX11 TX11 tyX11 := by
  refine ⟨kX11, rfl, ⟨by decide, by decide, by decide +kernel⟩, ?_, wiX11_lands, wvX11_lands, wIX11, wcX11_lands⟩
  rw [hM]; exact wmL_159
theorem wmL_162 : Cond.methodLink RL 162 yX12_lands ∈ sm_G := sm_in 1541 (by decide +kernel) rfl
theorem wiX12_lands : Cond.instanceMethod yX12_lands ∈ sm_G := sm_in 1542 (by decide +kernel) rfl
theorem wvX12_lands : Cond.selects RX12 yX12_lands yX12_lands ∈ sm_G := sm_in 1543 (by decide +kernel) rfl
theorem wcX12_lands : Cond.code mX12_lands.1 mX12_lands.2.1 mX12_lands.2.2.1 mX12_lands.2.2.2 ∈ sm_G := sm_in 1544 (by decide +kernel) rfl
theorem cvL_162 {M : sm_M} (hM : M.1.cls = RL) : sm_cV M mX12_lands 162 0 12 57 RX12 TX12 tyX12 := by
  refine ⟨kX12, rfl, ⟨by decide, by decide, by decide +kernel⟩, ?_, wiX12_lands, wvX12_lands, wIX12, wcX12_lands⟩
  rw [hM]; exact wmL_162
theorem wmL_163 : Cond.methodLink RL 163 yX11_sure ∈ sm_G := sm_in 1023 (by decide +kernel) rfl
theorem wiX11_sure : Cond.instanceMethod yX11_sure ∈ sm_G := sm_in 1024 (by decide +kernel) rfl
theorem wvX11_sure : Cond.selects RX11 yX11_sure yX11_sure ∈ sm_G := sm_in 1025 (by decide +kernel) rfl
theorem wcX11_sure : Cond.code mX11_sure.1 mX11_sure.2.1 mX11_sure.2.2.1 mX11_sure.2.2.2 ∈ sm_G := sm_in 1026 (by decide +kernel) rfl
theorem cvL_163 {M : sm_M} (hM : M.1.cls = RL) : sm_cV M mX11_sure 163 0 11 13 RX11 TX11 tyX11 := by
  refine ⟨kX11, rfl, ⟨by decide, by decide, by decide +kernel⟩, ?_, wiX11_sure, wvX11_sure, wIX11, wcX11_sure⟩
  rw [hM]; exact wmL_163
theorem wmL_166 : Cond.methodLink RL 166 yX12_sure ∈ sm_G := sm_in 1559 (by decide +kernel) rfl
theorem wiX12_sure : Cond.instanceMethod yX12_sure ∈ sm_G := sm_in 1560 (by decide +kernel) rfl
theorem wvX12_sure : Cond.selects RX12 yX12_sure yX12_sure ∈ sm_G := sm_in 1561 (by decide +kernel) rfl
theorem wcX12_sure : Cond.code mX12_sure.1 mX12_sure.2.1 mX12_sure.2.2.1 mX12_sure.2.2.2 ∈ sm_G := sm_in 1562 (by decide +kernel) rfl
theorem cvL_166 {M : sm_M} (hM : M.1.cls = RL) : sm_cV M mX12_sure 166 0 12 57 RX12 TX12 tyX12 := by
  refine ⟨kX12, rfl, ⟨by decide, by decide, by decide +kernel⟩, ?_, wiX12_sure, wvX12_sure, wIX12, wcX12_sure⟩
  rw [hM]; exact wmL_166
theorem wmL_167 : Cond.methodLink RL 167 yX11_next ∈ sm_G := sm_in 1036 (by decide +kernel) rfl
theorem wiX11_next : Cond.instanceMethod yX11_next ∈ sm_G := sm_in 1037 (by decide +kernel) rfl
theorem wvX11_next : Cond.selects RX11 yX11_next yX11_next ∈ sm_G := sm_in 1038 (by decide +kernel) rfl
theorem wcX11_next : Cond.code mX11_next.1 mX11_next.2.1 mX11_next.2.2.1 mX11_next.2.2.2 ∈ sm_G := sm_in 1039 (by decide +kernel) rfl
theorem cvL_167 {M : sm_M} (hM : M.1.cls = RL) : sm_cV M mX11_next 167 0 11 13 RX11 TX11 tyX11 := by
  refine ⟨kX11, rfl, ⟨by decide, by decide, by decide +kernel⟩, ?_, wiX11_next, wvX11_next, wIX11, wcX11_next⟩
  rw [hM]; exact wmL_167
theorem wmL_170 : Cond.methodLink RL 170 yX12_next ∈ sm_G := sm_in 1563 (by decide +kernel) rfl
theorem wiX12_next : Cond.instanceMethod yX12_next ∈ sm_G := sm_in 1564 (by decide +kernel) rfl
theorem wvX12_next : Cond.selects RX12 yX12_next yX12_next ∈ sm_G := sm_in 1565 (by decide +kernel) rfl
theorem wcX12_next : Cond.code mX12_next.1 mX12_next.2.1 mX12_next.2.2.1 mX12_next.2.2.2 ∈ sm_G := sm_in 1566 (by decide +kernel) rfl
theorem cvL_170 {M : sm_M} (hM : M.1.cls = RL) : sm_cV M mX12_next 170 0 12 57 RX12 TX12 tyX12 := by
  refine ⟨kX12, rfl, ⟨by decide, by decide, by decide +kernel⟩, ?_, wiX12_next, wvX12_next, wIX12, wcX12_next⟩
  rw [hM]; exact wmL_170
theorem wmL_171 : Cond.methodLink RL 171 yX11_lies ∈ sm_G := sm_in 1045 (by decide +kernel) rfl
theorem wiX11_lies : Cond.instanceMethod yX11_lies ∈ sm_G := sm_in 1046 (by decide +kernel) rfl
theorem wvX11_lies : Cond.selects RX11 yX11_lies yX11_lies ∈ sm_G := sm_in 1047 (by decide +kernel) rfl
theorem wcX11_lies : Cond.code mX11_lies.1 mX11_lies.2.1 mX11_lies.2.2.1 mX11_lies.2.2.2 ∈ sm_G := sm_in 1048 (by decide +kernel) rfl
theorem cvL_171 {M : sm_M} (hM : M.1.cls = RL) : sm_cV M mX11_lies 171 0 11 13 RX11 TX11 tyX11 := by
  refine ⟨kX11, rfl, ⟨by decide, by decide, by decide +kernel⟩, ?_, wiX11_lies, wvX11_lies, wIX11, wcX11_lies⟩
  rw [hM]; exact wmL_171
theorem wmL_174 : Cond.methodLink RL 174 yX12_lies ∈ sm_G := sm_in 1567 (by decide +kernel) rfl
theorem wiX12_lies : Cond.instanceMethod yX12_lies ∈ sm_G := sm_in 1568 (by decide +kernel) rfl
theorem wvX12_lies : Cond.selects RX12 yX12_lies yX12_lies ∈ sm_G := sm_in 1569 (by decide +kernel) rfl
theorem wcX12_lies : Cond.code mX12_lies.1 mX12_lies.2.1 mX12_lies.2.2.1 mX12_lies.2.2.2 ∈ sm_G := sm_in 1570 (by decide +kernel) rfl
theorem cvL_174 {M : sm_M} (hM : M.1.cls = RL) : sm_cV M mX12_lies 174 0 12 57 RX12 TX12 tyX12 := by
  refine ⟨kX12, rfl, ⟨by decide, by decide, by decide +kernel⟩, ?_, wiX12_lies, wvX12_lies, wIX12, wcX12_lies⟩
  rw [hM]; exact wmL_174
theorem wmL_175 : Cond.methodLink RL 175 yX11_quarrel ∈ sm_G := sm_in 1058 (by decide +kernel) rfl
theorem wiX11_quarrel : Cond.instanceMethod yX11_quarrel ∈ sm_G := sm_in 1059 (by decide +kernel) rfl
theorem wvX11_quarrel : Cond.selects RX11 yX11_quarrel yX11_quarrel ∈ sm_G := sm_in 1060 (by decide +kernel) rfl
theorem wcX11_quarrel : Cond.code mX11_quarrel.1 mX11_quarrel.2.1 mX11_quarrel.2.2.1 mX11_quarrel.2.2.2 ∈ sm_G := sm_in 1061 (by decide +kernel) rfl
theorem cvL_175 {M : sm_M} (hM : M.1.cls = RL) : sm_cV M mX11_quarrel 175 0 11 13 RX11 TX11 tyX11 := by
  refine ⟨kX11, rfl, ⟨by decide, by decide, by decide +kernel⟩, ?_, wiX11_quarrel, wvX11_quarrel, wIX11, wcX11_quarrel⟩
  rw [hM]; exact wmL_175
theorem wmL_178 : Cond.methodLink RL 178 yX12_quarrel ∈ sm_G := sm_in 1571 (by decide +kernel) rfl
theorem wiX12_quarrel : Cond.instanceMethod yX12_quarrel ∈ sm_G := sm_in 1572 (by decide +kernel) rfl
theorem wvX12_quarrel : Cond.selects RX12 yX12_quarrel yX12_quarrel ∈ sm_G := sm_in 1573 (by decide +kernel) rfl
theorem wcX12_quarrel : Cond.code mX12_quarrel.1 mX12_quarrel.2.1 mX12_quarrel.2.2.1 mX12_quarrel.2.2.2 ∈ sm_G := sm_in 1574 (by decide +kernel) rfl
theorem cvL_178 {M : sm_M} (hM : M.1.cls = RL) : sm_cV M mX12_quarrel 178 0 12 57 RX12 TX12 tyX12 := by
  refine ⟨kX12, rfl, ⟨by decide, by decide, by decide +kernel⟩, ?_, wiX12_quarrel, wvX12_quarrel, wIX12, wcX12_quarrel⟩
  rw [hM]; exact wmL_178
theorem wmL_179 : Cond.methodLink RL 179 yX11_keep ∈ sm_G := sm_in 1074 (by decide +kernel) rfl
theorem wiX11_keep : Cond.instanceMethod yX11_keep ∈ sm_G := sm_in 1075 (by decide +kernel) rfl
theorem wvX11_keep : Cond.selects RX11 yX11_keep yX11_keep ∈ sm_G := sm_in 1076 (by decide +kernel) rfl
theorem wcX11_keep : Cond.code mX11_keep.1 mX11_keep.2.1 mX11_keep.2.2.1 mX11_keep.2.2.2 ∈ sm_G := sm_in 1077 (by decide +kernel) rfl
theorem cvL_179 {M : sm_M} (hM : M.1.cls = RL) : sm_cV M mX11_keep 179 1 11 13 RX11 TX11 tyX11 := by
  refine ⟨kX11, rfl, ⟨by decide, by decide, by decide +kernel⟩, ?_, wiX11_keep, wvX11_keep, wIX11, wcX11_keep⟩
  rw [hM]; exact wmL_179
theorem wmL_182 : Cond.methodLink RL 182 yX12_keep ∈ sm_G := sm_in 1579 (by decide +kernel) rfl
theorem wiX12_keep : Cond.instanceMethod yX12_keep ∈ sm_G := sm_in 1580 (by decide +kernel) rfl
theorem wvX12_keep : Cond.selects RX12 yX12_keep yX12_keep ∈ sm_G := sm_in 1581 (by decide +kernel) rfl
theorem wcX12_keep : Cond.code mX12_keep.1 mX12_keep.2.1 mX12_keep.2.2.1 mX12_keep.2.2.2 ∈ sm_G := sm_in 1582 (by decide +kernel) rfl
theorem cvL_182 {M : sm_M} (hM : M.1.cls = RL) : sm_cV M mX12_keep 182 1 12 57 RX12 TX12 tyX12 := by
  refine ⟨kX12, rfl, ⟨by decide, by decide, by decide +kernel⟩, ?_, wiX12_keep, wvX12_keep, wIX12, wcX12_keep⟩
  rw [hM]; exact wmL_182
theorem wmL_183 : Cond.methodLink RL 183 yX11_again ∈ sm_G := sm_in 1078 (by decide +kernel) rfl
theorem wiX11_again : Cond.instanceMethod yX11_again ∈ sm_G := sm_in 1079 (by decide +kernel) rfl
theorem wvX11_again : Cond.selects RX11 yX11_again yX11_again ∈ sm_G := sm_in 1080 (by decide +kernel) rfl
theorem wcX11_again : Cond.code mX11_again.1 mX11_again.2.1 mX11_again.2.2.1 mX11_again.2.2.2 ∈ sm_G := sm_in 1081 (by decide +kernel) rfl
theorem cvL_183 {M : sm_M} (hM : M.1.cls = RL) : sm_cV M mX11_again 183 1 11 13 RX11 TX11 tyX11 := by
  refine ⟨kX11, rfl, ⟨by decide, by decide, by decide +kernel⟩, ?_, wiX11_again, wvX11_again, wIX11, wcX11_again⟩
  rw [hM]; exact wmL_183
theorem wmL_186 : Cond.methodLink RL 186 yX12_again ∈ sm_G := sm_in 1584 (by decide +kernel) rfl
theorem wiX12_again : Cond.instanceMethod yX12_again ∈ sm_G := sm_in 1585 (by decide +kernel) rfl
theorem wvX12_again : Cond.selects RX12 yX12_again yX12_again ∈ sm_G := sm_in 1586 (by decide +kernel) rfl
theorem wcX12_again : Cond.code mX12_again.1 mX12_again.2.1 mX12_again.2.2.1 mX12_again.2.2.2 ∈ sm_G := sm_in 1587 (by decide +kernel) rfl
theorem cvL_186 {M : sm_M} (hM : M.1.cls = RL) : sm_cV M mX12_again 186 1 12 57 RX12 TX12 tyX12 := by
  refine ⟨kX12, rfl, ⟨by decide, by decide, by decide +kernel⟩, ?_, wiX12_again, wvX12_again, wIX12, wcX12_again⟩
  rw [hM]; exact wmL_186
theorem wmL_187 : Cond.methodLink RL 187 yX11_count ∈ sm_G := sm_in 1082 (by decide +kernel) rfl
theorem wiX11_count : Cond.instanceMethod yX11_count ∈ sm_G := sm_in 1083 (by decide +kernel) rfl
theorem wvX11_count : Cond.selects RX11 yX11_count yX11_count ∈ sm_G := sm_in 1084 (by decide +kernel) rfl
theorem wcX11_count : Cond.code mX11_count.1 mX11_count.2.1 mX11_count.2.2.1 mX11_count.2.2.2 ∈ sm_G := sm_in 1085 (by decide +kernel) rfl
theorem cvL_187 {M : sm_M} (hM : M.1.cls = RL) : sm_cV M mX11_count 187 1 11 13 RX11 TX11 tyX11 := by
  refine ⟨kX11, rfl, ⟨by decide, by decide, by decide +kernel⟩, ?_, wiX11_count, wvX11_count, wIX11, wcX11_count⟩
  rw [hM]; exact wmL_187
theorem wmL_190 : Cond.methodLink RL 190 yX12_count ∈ sm_G := sm_in 1588 (by decide +kernel) rfl
theorem wiX12_count : Cond.instanceMethod yX12_count ∈ sm_G := sm_in 1589 (by decide +kernel) rfl
theorem wvX12_count : Cond.selects RX12 yX12_count yX12_count ∈ sm_G := sm_in 1590 (by decide +kernel) rfl
theorem wcX12_count : Cond.code mX12_count.1 mX12_count.2.1 mX12_count.2.2.1 mX12_count.2.2.2 ∈ sm_G := sm_in 1591 (by decide +kernel) rfl
theorem cvL_190 {M : sm_M} (hM : M.1.cls = RL) : sm_cV M mX12_count 190 1 12 57 RX12 TX12 tyX12 := by
  refine ⟨kX12, rfl, ⟨by decide, by decide, by decide +kernel⟩, ?_, wiX12_count, wvX12_count, wIX12, wcX12_count⟩
  rw [hM]; exact wmL_190
theorem wmL_191 : Cond.methodLink RL 191 yL_row ∈ sm_G := sm_in 1169 (by decide +kernel) rfl
theorem wsL_row : Cond.static yL_row ∈ sm_G := sm_in 1170 (by decide +kernel) rfl
theorem wmL_193 : Cond.methodLink RL 193 yX12_row ∈ sm_G := sm_in 1770 (by decide +kernel) rfl
theorem wiX12_row : Cond.instanceMethod yX12_row ∈ sm_G := sm_in 1771 (by decide +kernel) rfl
theorem wvX12_row : Cond.selects RX12 yX12_row yX12_row ∈ sm_G := sm_in 1772 (by decide +kernel) rfl
theorem wcX12_row : Cond.code mX12_row.1 mX12_row.2.1 mX12_row.2.2.1 mX12_row.2.2.2 ∈ sm_G := sm_in 1773 (by decide +kernel) rfl
theorem cvL_193 {M : sm_M} (hM : M.1.cls = RL) : sm_cV M mX12_row 193 1 12 57 RX12 TX12 tyX12 := by
  refine ⟨kX12, rfl, ⟨by decide, by decide, by decide +kernel⟩, ?_, wiX12_row, wvX12_row, wIX12, wcX12_row⟩
  rw [hM]; exact wmL_193
def sm_ML (nm : String) : sm_M := (⟨RL, nm, "([I)Z"⟩, cL_law, 7, some .boolean)
theorem bgX11_hedge_0 : sm_Sd mX11_hedge 8 0 5 (sm_run [i_al 0, i_gfr 11 13 1, i_il 1]) := sm_Sd.cons (sd_aload_n (i := 0) dX11_hedge_0 rfl) (sm_Sd.cons (sd_gfr (k := 1) kX11 dX11_hedge_1 (by decide) rfl wfX11_19) (sm_Sd.cons (sd_iload_n (i := 1) dX11_hedge_4 rfl) (sm_Sd.nil)))
theorem bgX11_hedge_11 : sm_Sd mX11_hedge 8 11 12 (sm_run [i_il 2]) := sm_Sd.cons (sd_iload_n (i := 2) dX11_hedge_11 rfl) (sm_Sd.nil)
theorem bgX11_hedge_15 : sm_Sd mX11_hedge 8 15 18 (sm_run [i_il 2, i_c (.int (8 : Int32))]) := sm_Sd.cons (sd_iload_n (i := 2) dX11_hedge_15 rfl) (sm_Sd.cons (sd_bipush dX11_hedge_16 (by decide)) (sm_Sd.nil))
theorem bgX11_reach_0 : sm_Sd mX11_reach 8 0 7 (sm_run [i_al 0, i_gfr 11 13 1, i_gfi 2 14 0]) := sm_Sd.cons (sd_aload_n (i := 0) dX11_reach_0 rfl) (sm_Sd.cons (sd_gfr (k := 1) kX11 dX11_reach_1 (by decide) rfl wfX11_19) (sm_Sd.cons (sd_gfi (k := 0) kX2 dX11_reach_4 (by decide) rfl wfX11_270) (sm_Sd.nil)))
theorem bgX11_reach_10 : sm_Sd mX11_reach 8 10 12 (sm_run [i_il 1, i_c (.int (-1 : Int32))]) := sm_Sd.cons (sd_iload_n (i := 1) dX11_reach_10 rfl) (sm_Sd.cons (sd_iconst dX11_reach_11 (by decide)) (sm_Sd.nil))
theorem bgX11_reach_15 : sm_Sd mX11_reach 8 15 20 (sm_run [i_al 0, i_gfr 11 13 1, i_il 1]) := sm_Sd.cons (sd_aload_n (i := 0) dX11_reach_15 rfl) (sm_Sd.cons (sd_gfr (k := 1) kX11 dX11_reach_16 (by decide) rfl wfX11_19) (sm_Sd.cons (sd_iload_n (i := 1) dX11_reach_19 rfl) (sm_Sd.nil)))
theorem bgX11_row_0 : sm_Sd mX11_row 8 0 1 (sm_run [i_il 1]) := sm_Sd.cons (sd_iload_n (i := 1) dX11_row_0 rfl) (sm_Sd.nil)
theorem bgX11_row_4 : sm_Sd mX11_row 8 4 12 (sm_run [i_il 1, i_al 0, i_gfr 11 13 2, i_gfi 5 2 1]) := sm_Sd.cons (sd_iload_n (i := 1) dX11_row_4 rfl) (sm_Sd.cons (sd_aload_n (i := 0) dX11_row_5 rfl) (sm_Sd.cons (sd_gfr (k := 2) kX11 dX11_row_6 (by decide) rfl wfX11_26) (sm_Sd.cons (sd_gfi (k := 1) kX5 dX11_row_9 (by decide) rfl wfX11_374) (sm_Sd.nil))))
theorem bL_law_23 {nm : String} : sm_Sd (sm_ML nm) 20 23 26 (sm_run [i_il 4, i_al 0]) := sm_Sd.cons (sd_iload dL_law_23) (sm_Sd.cons (sd_aload_n (i := 0) dL_law_25 rfl) (sm_Sd.nil))
theorem bL_law_27 {nm : String} : sm_Sd (sm_ML nm) 20 27 29 (sm_run [i_c (.int (5 : Int32)), i_o2 (fun x y => x - y)]) := sm_Sd.cons (sd_iconst dL_law_27 (by first | decide | (show _ < 7; decide))) (sm_Sd.cons (sd_isub dL_law_28) (sm_Sd.nil))
theorem bL_law_1251 {nm : String} : sm_Sd (sm_ML nm) 20 1251 1252 (sm_run [i_c (.int (1 : Int32))]) := sm_Sd.cons (sd_iconst dL_law_1251 (by first | decide | (show _ < 7; decide))) (sm_Sd.nil)
theorem bL_law_32 {nm : String} : sm_Sd (sm_ML nm) 20 32 35 (sm_run [i_al 0, i_il 4]) := sm_Sd.cons (sd_aload_n (i := 0) dL_law_32 rfl) (sm_Sd.cons (sd_iload dL_law_33) (sm_Sd.nil))
theorem bL_law_36 {nm : String} : sm_Sd (sm_ML nm) 20 36 39 (sm_run [i_c (.int (63 : Int32)), i_o2 (fun x y => x &&& y)]) := sm_Sd.cons (sd_bipush dL_law_36 (by first | decide | (show _ < 7; decide))) (sm_Sd.cons (sd_iand dL_law_38) (sm_Sd.nil))
theorem bL_law_212 {nm : String} : sm_Sd (sm_ML nm) 20 212 218 (sm_run [i_al 1, i_al 0, i_il 4, i_c (.int (1 : Int32)), i_o2 (fun x y => x + y)]) := sm_Sd.cons (sd_aload_n (i := 1) dL_law_212 rfl) (sm_Sd.cons (sd_aload_n (i := 0) dL_law_213 rfl) (sm_Sd.cons (sd_iload dL_law_214) (sm_Sd.cons (sd_iconst dL_law_216 (by first | decide | (show _ < 7; decide))) (sm_Sd.cons (sd_iadd dL_law_217) (sm_Sd.nil)))))
theorem bL_law_222 {nm : String} : sm_Sd (sm_ML nm) 20 222 228 (sm_run [i_al 2, i_al 0, i_il 4, i_c (.int (1 : Int32)), i_o2 (fun x y => x + y)]) := sm_Sd.cons (sd_aload_n (i := 2) dL_law_222 rfl) (sm_Sd.cons (sd_aload_n (i := 0) dL_law_223 rfl) (sm_Sd.cons (sd_iload dL_law_224) (sm_Sd.cons (sd_iconst dL_law_226 (by first | decide | (show _ < 7; decide))) (sm_Sd.cons (sd_iadd dL_law_227) (sm_Sd.nil)))))
theorem bL_law_1245 {nm : String} : sm_Sd (sm_ML nm) 20 1245 1248 (sm_run [i_inc 4 (5 : Int32)]) := sm_Sd.cons (sd_iinc dL_law_1245 (by first | decide | (show _ < 7; decide)) (by first | decide | (show _ < 7; decide))) (sm_Sd.nil)
theorem bL_law_235 {nm : String} : sm_Sd (sm_ML nm) 20 235 236 (sm_run [i_c (.int (0 : Int32))]) := sm_Sd.cons (sd_iconst dL_law_235 (by first | decide | (show _ < 7; decide))) (sm_Sd.nil)
theorem bL_law_237 {nm : String} : sm_Sd (sm_ML nm) 20 237 243 (sm_run [i_al 1, i_al 0, i_il 4, i_c (.int (1 : Int32)), i_o2 (fun x y => x + y)]) := sm_Sd.cons (sd_aload_n (i := 1) dL_law_237 rfl) (sm_Sd.cons (sd_aload_n (i := 0) dL_law_238 rfl) (sm_Sd.cons (sd_iload dL_law_239) (sm_Sd.cons (sd_iconst dL_law_241 (by first | decide | (show _ < 7; decide))) (sm_Sd.cons (sd_iadd dL_law_242) (sm_Sd.nil)))))
theorem bL_law_247 {nm : String} : sm_Sd (sm_ML nm) 20 247 253 (sm_run [i_al 2, i_al 0, i_il 4, i_c (.int (1 : Int32)), i_o2 (fun x y => x + y)]) := sm_Sd.cons (sd_aload_n (i := 2) dL_law_247 rfl) (sm_Sd.cons (sd_aload_n (i := 0) dL_law_248 rfl) (sm_Sd.cons (sd_iload dL_law_249) (sm_Sd.cons (sd_iconst dL_law_251 (by first | decide | (show _ < 7; decide))) (sm_Sd.cons (sd_iadd dL_law_252) (sm_Sd.nil)))))
theorem bL_law_260 {nm : String} : sm_Sd (sm_ML nm) 20 260 261 (sm_run [i_c (.int (0 : Int32))]) := sm_Sd.cons (sd_iconst dL_law_260 (by first | decide | (show _ < 7; decide))) (sm_Sd.nil)
theorem bL_law_262 {nm : String} : sm_Sd (sm_ML nm) 20 262 263 (sm_run [i_al 1]) := sm_Sd.cons (sd_aload_n (i := 1) dL_law_262 rfl) (sm_Sd.nil)
theorem bL_law_266 {nm : String} : sm_Sd (sm_ML nm) 20 266 267 (sm_run [i_al 2]) := sm_Sd.cons (sd_aload_n (i := 2) dL_law_266 rfl) (sm_Sd.nil)
theorem bL_law_273 {nm : String} : sm_Sd (sm_ML nm) 20 273 274 (sm_run [i_c (.int (0 : Int32))]) := sm_Sd.cons (sd_iconst dL_law_273 (by first | decide | (show _ < 7; decide))) (sm_Sd.nil)
theorem bL_law_275 {nm : String} : sm_Sd (sm_ML nm) 20 275 281 (sm_run [i_al 1, i_al 0, i_il 4, i_c (.int (1 : Int32)), i_o2 (fun x y => x + y)]) := sm_Sd.cons (sd_aload_n (i := 1) dL_law_275 rfl) (sm_Sd.cons (sd_aload_n (i := 0) dL_law_276 rfl) (sm_Sd.cons (sd_iload dL_law_277) (sm_Sd.cons (sd_iconst dL_law_279 (by first | decide | (show _ < 7; decide))) (sm_Sd.cons (sd_iadd dL_law_280) (sm_Sd.nil)))))
theorem bL_law_282 {nm : String} : sm_Sd (sm_ML nm) 20 282 287 (sm_run [i_al 0, i_il 4, i_c (.int (2 : Int32)), i_o2 (fun x y => x + y)]) := sm_Sd.cons (sd_aload_n (i := 0) dL_law_282 rfl) (sm_Sd.cons (sd_iload dL_law_283) (sm_Sd.cons (sd_iconst dL_law_285 (by first | decide | (show _ < 7; decide))) (sm_Sd.cons (sd_iadd dL_law_286) (sm_Sd.nil))))
theorem bL_law_288 {nm : String} : sm_Sd (sm_ML nm) 20 288 289 (sm_run [i_al 3]) := sm_Sd.cons (sd_aload_n (i := 3) dL_law_288 rfl) (sm_Sd.nil)
theorem bL_law_292 {nm : String} : sm_Sd (sm_ML nm) 20 292 300 (sm_run [i_is 5, i_al 2, i_al 0, i_il 4, i_c (.int (1 : Int32)), i_o2 (fun x y => x + y)]) := sm_Sd.cons (sd_istore dL_law_292 (by first | decide | (show _ < 7; decide))) (sm_Sd.cons (sd_aload_n (i := 2) dL_law_294 rfl) (sm_Sd.cons (sd_aload_n (i := 0) dL_law_295 rfl) (sm_Sd.cons (sd_iload dL_law_296) (sm_Sd.cons (sd_iconst dL_law_298 (by first | decide | (show _ < 7; decide))) (sm_Sd.cons (sd_iadd dL_law_299) (sm_Sd.nil))))))
theorem bL_law_301 {nm : String} : sm_Sd (sm_ML nm) 20 301 306 (sm_run [i_al 0, i_il 4, i_c (.int (2 : Int32)), i_o2 (fun x y => x + y)]) := sm_Sd.cons (sd_aload_n (i := 0) dL_law_301 rfl) (sm_Sd.cons (sd_iload dL_law_302) (sm_Sd.cons (sd_iconst dL_law_304 (by first | decide | (show _ < 7; decide))) (sm_Sd.cons (sd_iadd dL_law_305) (sm_Sd.nil))))
theorem bL_law_310 {nm : String} : sm_Sd (sm_ML nm) 20 310 313 (sm_run [i_is 6, i_al 2]) := sm_Sd.cons (sd_istore dL_law_310 (by first | decide | (show _ < 7; decide))) (sm_Sd.cons (sd_aload_n (i := 2) dL_law_312 rfl) (sm_Sd.nil))
theorem bL_law_316 {nm : String} : sm_Sd (sm_ML nm) 20 316 318 (sm_run [i_il 5]) := sm_Sd.cons (sd_iload dL_law_316) (sm_Sd.nil)
theorem bL_law_323 {nm : String} : sm_Sd (sm_ML nm) 20 323 325 (sm_run [i_il 5]) := sm_Sd.cons (sd_iload dL_law_323) (sm_Sd.nil)
theorem bL_law_328 {nm : String} : sm_Sd (sm_ML nm) 20 328 335 (sm_run [i_al 3, i_c (.int (0 : Int32)), i_la, i_il 6, i_i2l, i_lcmp]) := sm_Sd.cons (sd_aload_n (i := 3) dL_law_328 rfl) (sm_Sd.cons (sd_iconst dL_law_329 (by first | decide | (show _ < 7; decide))) (sm_Sd.cons (sd_laload (i0 := 1) dL_law_330 rfl) (sm_Sd.cons (sd_iload dL_law_331) (sm_Sd.cons (sd_i2l dL_law_333) (sm_Sd.cons (sd_lcmp dL_law_334) (sm_Sd.nil))))))
theorem bL_law_338 {nm : String} : sm_Sd (sm_ML nm) 20 338 339 (sm_run [i_c (.int (0 : Int32))]) := sm_Sd.cons (sd_iconst dL_law_338 (by first | decide | (show _ < 7; decide))) (sm_Sd.nil)
theorem bL_law_321 {nm : String} : sm_Sd (sm_ML nm) 20 321 322 (sm_run [i_c (.int (0 : Int32))]) := sm_Sd.cons (sd_iconst dL_law_321 (by first | decide | (show _ < 7; decide))) (sm_Sd.nil)
theorem bL_law_343 {nm : String} : sm_Sd (sm_ML nm) 20 343 349 (sm_run [i_al 1, i_al 0, i_il 4, i_c (.int (1 : Int32)), i_o2 (fun x y => x + y)]) := sm_Sd.cons (sd_aload_n (i := 1) dL_law_343 rfl) (sm_Sd.cons (sd_aload_n (i := 0) dL_law_344 rfl) (sm_Sd.cons (sd_iload dL_law_345) (sm_Sd.cons (sd_iconst dL_law_347 (by first | decide | (show _ < 7; decide))) (sm_Sd.cons (sd_iadd dL_law_348) (sm_Sd.nil)))))
theorem bL_law_350 {nm : String} : sm_Sd (sm_ML nm) 20 350 355 (sm_run [i_al 0, i_il 4, i_c (.int (2 : Int32)), i_o2 (fun x y => x + y)]) := sm_Sd.cons (sd_aload_n (i := 0) dL_law_350 rfl) (sm_Sd.cons (sd_iload dL_law_351) (sm_Sd.cons (sd_iconst dL_law_353 (by first | decide | (show _ < 7; decide))) (sm_Sd.cons (sd_iadd dL_law_354) (sm_Sd.nil))))
theorem bL_law_359 {nm : String} : sm_Sd (sm_ML nm) 20 359 365 (sm_run [i_al 2, i_al 0, i_il 4, i_c (.int (1 : Int32)), i_o2 (fun x y => x + y)]) := sm_Sd.cons (sd_aload_n (i := 2) dL_law_359 rfl) (sm_Sd.cons (sd_aload_n (i := 0) dL_law_360 rfl) (sm_Sd.cons (sd_iload dL_law_361) (sm_Sd.cons (sd_iconst dL_law_363 (by first | decide | (show _ < 7; decide))) (sm_Sd.cons (sd_iadd dL_law_364) (sm_Sd.nil)))))
theorem bL_law_366 {nm : String} : sm_Sd (sm_ML nm) 20 366 371 (sm_run [i_al 0, i_il 4, i_c (.int (2 : Int32)), i_o2 (fun x y => x + y)]) := sm_Sd.cons (sd_aload_n (i := 0) dL_law_366 rfl) (sm_Sd.cons (sd_iload dL_law_367) (sm_Sd.cons (sd_iconst dL_law_369 (by first | decide | (show _ < 7; decide))) (sm_Sd.cons (sd_iadd dL_law_370) (sm_Sd.nil))))
theorem bL_law_378 {nm : String} : sm_Sd (sm_ML nm) 20 378 379 (sm_run [i_c (.int (0 : Int32))]) := sm_Sd.cons (sd_iconst dL_law_378 (by first | decide | (show _ < 7; decide))) (sm_Sd.nil)
theorem bL_law_380 {nm : String} : sm_Sd (sm_ML nm) 20 380 386 (sm_run [i_al 1, i_al 0, i_il 4, i_c (.int (1 : Int32)), i_o2 (fun x y => x + y)]) := sm_Sd.cons (sd_aload_n (i := 1) dL_law_380 rfl) (sm_Sd.cons (sd_aload_n (i := 0) dL_law_381 rfl) (sm_Sd.cons (sd_iload dL_law_382) (sm_Sd.cons (sd_iconst dL_law_384 (by first | decide | (show _ < 7; decide))) (sm_Sd.cons (sd_iadd dL_law_385) (sm_Sd.nil)))))
theorem bL_law_387 {nm : String} : sm_Sd (sm_ML nm) 20 387 392 (sm_run [i_al 0, i_il 4, i_c (.int (2 : Int32)), i_o2 (fun x y => x + y)]) := sm_Sd.cons (sd_aload_n (i := 0) dL_law_387 rfl) (sm_Sd.cons (sd_iload dL_law_388) (sm_Sd.cons (sd_iconst dL_law_390 (by first | decide | (show _ < 7; decide))) (sm_Sd.cons (sd_iadd dL_law_391) (sm_Sd.nil))))
theorem bL_law_393 {nm : String} : sm_Sd (sm_ML nm) 20 393 398 (sm_run [i_al 0, i_il 4, i_c (.int (3 : Int32)), i_o2 (fun x y => x + y)]) := sm_Sd.cons (sd_aload_n (i := 0) dL_law_393 rfl) (sm_Sd.cons (sd_iload dL_law_394) (sm_Sd.cons (sd_iconst dL_law_396 (by first | decide | (show _ < 7; decide))) (sm_Sd.cons (sd_iadd dL_law_397) (sm_Sd.nil))))
theorem bL_law_402 {nm : String} : sm_Sd (sm_ML nm) 20 402 408 (sm_run [i_al 2, i_al 0, i_il 4, i_c (.int (1 : Int32)), i_o2 (fun x y => x + y)]) := sm_Sd.cons (sd_aload_n (i := 2) dL_law_402 rfl) (sm_Sd.cons (sd_aload_n (i := 0) dL_law_403 rfl) (sm_Sd.cons (sd_iload dL_law_404) (sm_Sd.cons (sd_iconst dL_law_406 (by first | decide | (show _ < 7; decide))) (sm_Sd.cons (sd_iadd dL_law_407) (sm_Sd.nil)))))
theorem bL_law_409 {nm : String} : sm_Sd (sm_ML nm) 20 409 414 (sm_run [i_al 0, i_il 4, i_c (.int (2 : Int32)), i_o2 (fun x y => x + y)]) := sm_Sd.cons (sd_aload_n (i := 0) dL_law_409 rfl) (sm_Sd.cons (sd_iload dL_law_410) (sm_Sd.cons (sd_iconst dL_law_412 (by first | decide | (show _ < 7; decide))) (sm_Sd.cons (sd_iadd dL_law_413) (sm_Sd.nil))))
theorem bL_law_415 {nm : String} : sm_Sd (sm_ML nm) 20 415 420 (sm_run [i_al 0, i_il 4, i_c (.int (3 : Int32)), i_o2 (fun x y => x + y)]) := sm_Sd.cons (sd_aload_n (i := 0) dL_law_415 rfl) (sm_Sd.cons (sd_iload dL_law_416) (sm_Sd.cons (sd_iconst dL_law_418 (by first | decide | (show _ < 7; decide))) (sm_Sd.cons (sd_iadd dL_law_419) (sm_Sd.nil))))
theorem bL_law_427 {nm : String} : sm_Sd (sm_ML nm) 20 427 428 (sm_run [i_c (.int (0 : Int32))]) := sm_Sd.cons (sd_iconst dL_law_427 (by first | decide | (show _ < 7; decide))) (sm_Sd.nil)
theorem bL_law_429 {nm : String} : sm_Sd (sm_ML nm) 20 429 435 (sm_run [i_al 1, i_al 0, i_il 4, i_c (.int (1 : Int32)), i_o2 (fun x y => x + y)]) := sm_Sd.cons (sd_aload_n (i := 1) dL_law_429 rfl) (sm_Sd.cons (sd_aload_n (i := 0) dL_law_430 rfl) (sm_Sd.cons (sd_iload dL_law_431) (sm_Sd.cons (sd_iconst dL_law_433 (by first | decide | (show _ < 7; decide))) (sm_Sd.cons (sd_iadd dL_law_434) (sm_Sd.nil)))))
theorem bL_law_436 {nm : String} : sm_Sd (sm_ML nm) 20 436 441 (sm_run [i_al 0, i_il 4, i_c (.int (2 : Int32)), i_o2 (fun x y => x + y)]) := sm_Sd.cons (sd_aload_n (i := 0) dL_law_436 rfl) (sm_Sd.cons (sd_iload dL_law_437) (sm_Sd.cons (sd_iconst dL_law_439 (by first | decide | (show _ < 7; decide))) (sm_Sd.cons (sd_iadd dL_law_440) (sm_Sd.nil))))
theorem bL_law_442 {nm : String} : sm_Sd (sm_ML nm) 20 442 447 (sm_run [i_al 0, i_il 4, i_c (.int (3 : Int32)), i_o2 (fun x y => x + y)]) := sm_Sd.cons (sd_aload_n (i := 0) dL_law_442 rfl) (sm_Sd.cons (sd_iload dL_law_443) (sm_Sd.cons (sd_iconst dL_law_445 (by first | decide | (show _ < 7; decide))) (sm_Sd.cons (sd_iadd dL_law_446) (sm_Sd.nil))))
theorem bL_law_448 {nm : String} : sm_Sd (sm_ML nm) 20 448 453 (sm_run [i_al 0, i_il 4, i_c (.int (4 : Int32)), i_o2 (fun x y => x + y)]) := sm_Sd.cons (sd_aload_n (i := 0) dL_law_448 rfl) (sm_Sd.cons (sd_iload dL_law_449) (sm_Sd.cons (sd_iconst dL_law_451 (by first | decide | (show _ < 7; decide))) (sm_Sd.cons (sd_iadd dL_law_452) (sm_Sd.nil))))
theorem bL_law_457 {nm : String} : sm_Sd (sm_ML nm) 20 457 463 (sm_run [i_al 2, i_al 0, i_il 4, i_c (.int (1 : Int32)), i_o2 (fun x y => x + y)]) := sm_Sd.cons (sd_aload_n (i := 2) dL_law_457 rfl) (sm_Sd.cons (sd_aload_n (i := 0) dL_law_458 rfl) (sm_Sd.cons (sd_iload dL_law_459) (sm_Sd.cons (sd_iconst dL_law_461 (by first | decide | (show _ < 7; decide))) (sm_Sd.cons (sd_iadd dL_law_462) (sm_Sd.nil)))))
theorem bL_law_464 {nm : String} : sm_Sd (sm_ML nm) 20 464 469 (sm_run [i_al 0, i_il 4, i_c (.int (2 : Int32)), i_o2 (fun x y => x + y)]) := sm_Sd.cons (sd_aload_n (i := 0) dL_law_464 rfl) (sm_Sd.cons (sd_iload dL_law_465) (sm_Sd.cons (sd_iconst dL_law_467 (by first | decide | (show _ < 7; decide))) (sm_Sd.cons (sd_iadd dL_law_468) (sm_Sd.nil))))
theorem bL_law_470 {nm : String} : sm_Sd (sm_ML nm) 20 470 475 (sm_run [i_al 0, i_il 4, i_c (.int (3 : Int32)), i_o2 (fun x y => x + y)]) := sm_Sd.cons (sd_aload_n (i := 0) dL_law_470 rfl) (sm_Sd.cons (sd_iload dL_law_471) (sm_Sd.cons (sd_iconst dL_law_473 (by first | decide | (show _ < 7; decide))) (sm_Sd.cons (sd_iadd dL_law_474) (sm_Sd.nil))))
theorem bL_law_476 {nm : String} : sm_Sd (sm_ML nm) 20 476 481 (sm_run [i_al 0, i_il 4, i_c (.int (4 : Int32)), i_o2 (fun x y => x + y)]) := sm_Sd.cons (sd_aload_n (i := 0) dL_law_476 rfl) (sm_Sd.cons (sd_iload dL_law_477) (sm_Sd.cons (sd_iconst dL_law_479 (by first | decide | (show _ < 7; decide))) (sm_Sd.cons (sd_iadd dL_law_480) (sm_Sd.nil))))
theorem bL_law_488 {nm : String} : sm_Sd (sm_ML nm) 20 488 489 (sm_run [i_c (.int (0 : Int32))]) := sm_Sd.cons (sd_iconst dL_law_488 (by first | decide | (show _ < 7; decide))) (sm_Sd.nil)
theorem bL_law_490 {nm : String} : sm_Sd (sm_ML nm) 20 490 496 (sm_run [i_al 1, i_al 0, i_il 4, i_c (.int (1 : Int32)), i_o2 (fun x y => x + y)]) := sm_Sd.cons (sd_aload_n (i := 1) dL_law_490 rfl) (sm_Sd.cons (sd_aload_n (i := 0) dL_law_491 rfl) (sm_Sd.cons (sd_iload dL_law_492) (sm_Sd.cons (sd_iconst dL_law_494 (by first | decide | (show _ < 7; decide))) (sm_Sd.cons (sd_iadd dL_law_495) (sm_Sd.nil)))))
theorem bL_law_500 {nm : String} : sm_Sd (sm_ML nm) 20 500 506 (sm_run [i_al 2, i_al 0, i_il 4, i_c (.int (1 : Int32)), i_o2 (fun x y => x + y)]) := sm_Sd.cons (sd_aload_n (i := 2) dL_law_500 rfl) (sm_Sd.cons (sd_aload_n (i := 0) dL_law_501 rfl) (sm_Sd.cons (sd_iload dL_law_502) (sm_Sd.cons (sd_iconst dL_law_504 (by first | decide | (show _ < 7; decide))) (sm_Sd.cons (sd_iadd dL_law_505) (sm_Sd.nil)))))
theorem bL_law_513 {nm : String} : sm_Sd (sm_ML nm) 20 513 514 (sm_run [i_c (.int (0 : Int32))]) := sm_Sd.cons (sd_iconst dL_law_513 (by first | decide | (show _ < 7; decide))) (sm_Sd.nil)
theorem bL_law_515 {nm : String} : sm_Sd (sm_ML nm) 20 515 521 (sm_run [i_al 1, i_al 0, i_il 4, i_c (.int (1 : Int32)), i_o2 (fun x y => x + y)]) := sm_Sd.cons (sd_aload_n (i := 1) dL_law_515 rfl) (sm_Sd.cons (sd_aload_n (i := 0) dL_law_516 rfl) (sm_Sd.cons (sd_iload dL_law_517) (sm_Sd.cons (sd_iconst dL_law_519 (by first | decide | (show _ < 7; decide))) (sm_Sd.cons (sd_iadd dL_law_520) (sm_Sd.nil)))))
theorem bL_law_525 {nm : String} : sm_Sd (sm_ML nm) 20 525 531 (sm_run [i_al 2, i_al 0, i_il 4, i_c (.int (1 : Int32)), i_o2 (fun x y => x + y)]) := sm_Sd.cons (sd_aload_n (i := 2) dL_law_525 rfl) (sm_Sd.cons (sd_aload_n (i := 0) dL_law_526 rfl) (sm_Sd.cons (sd_iload dL_law_527) (sm_Sd.cons (sd_iconst dL_law_529 (by first | decide | (show _ < 7; decide))) (sm_Sd.cons (sd_iadd dL_law_530) (sm_Sd.nil)))))
theorem bL_law_538 {nm : String} : sm_Sd (sm_ML nm) 20 538 539 (sm_run [i_c (.int (0 : Int32))]) := sm_Sd.cons (sd_iconst dL_law_538 (by first | decide | (show _ < 7; decide))) (sm_Sd.nil)
theorem bL_law_540 {nm : String} : sm_Sd (sm_ML nm) 20 540 541 (sm_run [i_al 1]) := sm_Sd.cons (sd_aload_n (i := 1) dL_law_540 rfl) (sm_Sd.nil)
theorem bL_law_544 {nm : String} : sm_Sd (sm_ML nm) 20 544 545 (sm_run [i_al 2]) := sm_Sd.cons (sd_aload_n (i := 2) dL_law_544 rfl) (sm_Sd.nil)
theorem bL_law_551 {nm : String} : sm_Sd (sm_ML nm) 20 551 552 (sm_run [i_c (.int (0 : Int32))]) := sm_Sd.cons (sd_iconst dL_law_551 (by first | decide | (show _ < 7; decide))) (sm_Sd.nil)
theorem bL_law_553 {nm : String} : sm_Sd (sm_ML nm) 20 553 559 (sm_run [i_al 1, i_al 0, i_il 4, i_c (.int (1 : Int32)), i_o2 (fun x y => x + y)]) := sm_Sd.cons (sd_aload_n (i := 1) dL_law_553 rfl) (sm_Sd.cons (sd_aload_n (i := 0) dL_law_554 rfl) (sm_Sd.cons (sd_iload dL_law_555) (sm_Sd.cons (sd_iconst dL_law_557 (by first | decide | (show _ < 7; decide))) (sm_Sd.cons (sd_iadd dL_law_558) (sm_Sd.nil)))))
theorem bL_law_563 {nm : String} : sm_Sd (sm_ML nm) 20 563 569 (sm_run [i_al 2, i_al 0, i_il 4, i_c (.int (1 : Int32)), i_o2 (fun x y => x + y)]) := sm_Sd.cons (sd_aload_n (i := 2) dL_law_563 rfl) (sm_Sd.cons (sd_aload_n (i := 0) dL_law_564 rfl) (sm_Sd.cons (sd_iload dL_law_565) (sm_Sd.cons (sd_iconst dL_law_567 (by first | decide | (show _ < 7; decide))) (sm_Sd.cons (sd_iadd dL_law_568) (sm_Sd.nil)))))
theorem bL_law_576 {nm : String} : sm_Sd (sm_ML nm) 20 576 577 (sm_run [i_c (.int (0 : Int32))]) := sm_Sd.cons (sd_iconst dL_law_576 (by first | decide | (show _ < 7; decide))) (sm_Sd.nil)
theorem bL_law_578 {nm : String} : sm_Sd (sm_ML nm) 20 578 579 (sm_run [i_al 1]) := sm_Sd.cons (sd_aload_n (i := 1) dL_law_578 rfl) (sm_Sd.nil)
theorem bL_law_582 {nm : String} : sm_Sd (sm_ML nm) 20 582 583 (sm_run [i_al 2]) := sm_Sd.cons (sd_aload_n (i := 2) dL_law_582 rfl) (sm_Sd.nil)
theorem bL_law_589 {nm : String} : sm_Sd (sm_ML nm) 20 589 590 (sm_run [i_c (.int (0 : Int32))]) := sm_Sd.cons (sd_iconst dL_law_589 (by first | decide | (show _ < 7; decide))) (sm_Sd.nil)
theorem bL_law_591 {nm : String} : sm_Sd (sm_ML nm) 20 591 597 (sm_run [i_al 1, i_al 0, i_il 4, i_c (.int (1 : Int32)), i_o2 (fun x y => x + y)]) := sm_Sd.cons (sd_aload_n (i := 1) dL_law_591 rfl) (sm_Sd.cons (sd_aload_n (i := 0) dL_law_592 rfl) (sm_Sd.cons (sd_iload dL_law_593) (sm_Sd.cons (sd_iconst dL_law_595 (by first | decide | (show _ < 7; decide))) (sm_Sd.cons (sd_iadd dL_law_596) (sm_Sd.nil)))))
theorem bL_law_601 {nm : String} : sm_Sd (sm_ML nm) 20 601 607 (sm_run [i_al 2, i_al 0, i_il 4, i_c (.int (1 : Int32)), i_o2 (fun x y => x + y)]) := sm_Sd.cons (sd_aload_n (i := 2) dL_law_601 rfl) (sm_Sd.cons (sd_aload_n (i := 0) dL_law_602 rfl) (sm_Sd.cons (sd_iload dL_law_603) (sm_Sd.cons (sd_iconst dL_law_605 (by first | decide | (show _ < 7; decide))) (sm_Sd.cons (sd_iadd dL_law_606) (sm_Sd.nil)))))
theorem bL_law_614 {nm : String} : sm_Sd (sm_ML nm) 20 614 615 (sm_run [i_c (.int (0 : Int32))]) := sm_Sd.cons (sd_iconst dL_law_614 (by first | decide | (show _ < 7; decide))) (sm_Sd.nil)
theorem bL_law_616 {nm : String} : sm_Sd (sm_ML nm) 20 616 622 (sm_run [i_al 1, i_al 0, i_il 4, i_c (.int (1 : Int32)), i_o2 (fun x y => x + y)]) := sm_Sd.cons (sd_aload_n (i := 1) dL_law_616 rfl) (sm_Sd.cons (sd_aload_n (i := 0) dL_law_617 rfl) (sm_Sd.cons (sd_iload dL_law_618) (sm_Sd.cons (sd_iconst dL_law_620 (by first | decide | (show _ < 7; decide))) (sm_Sd.cons (sd_iadd dL_law_621) (sm_Sd.nil)))))
theorem bL_law_626 {nm : String} : sm_Sd (sm_ML nm) 20 626 632 (sm_run [i_al 2, i_al 0, i_il 4, i_c (.int (1 : Int32)), i_o2 (fun x y => x + y)]) := sm_Sd.cons (sd_aload_n (i := 2) dL_law_626 rfl) (sm_Sd.cons (sd_aload_n (i := 0) dL_law_627 rfl) (sm_Sd.cons (sd_iload dL_law_628) (sm_Sd.cons (sd_iconst dL_law_630 (by first | decide | (show _ < 7; decide))) (sm_Sd.cons (sd_iadd dL_law_631) (sm_Sd.nil)))))
theorem bL_law_639 {nm : String} : sm_Sd (sm_ML nm) 20 639 640 (sm_run [i_c (.int (0 : Int32))]) := sm_Sd.cons (sd_iconst dL_law_639 (by first | decide | (show _ < 7; decide))) (sm_Sd.nil)
theorem bL_law_641 {nm : String} : sm_Sd (sm_ML nm) 20 641 647 (sm_run [i_al 1, i_al 0, i_il 4, i_c (.int (1 : Int32)), i_o2 (fun x y => x + y)]) := sm_Sd.cons (sd_aload_n (i := 1) dL_law_641 rfl) (sm_Sd.cons (sd_aload_n (i := 0) dL_law_642 rfl) (sm_Sd.cons (sd_iload dL_law_643) (sm_Sd.cons (sd_iconst dL_law_645 (by first | decide | (show _ < 7; decide))) (sm_Sd.cons (sd_iadd dL_law_646) (sm_Sd.nil)))))
theorem bL_law_651 {nm : String} : sm_Sd (sm_ML nm) 20 651 657 (sm_run [i_al 2, i_al 0, i_il 4, i_c (.int (1 : Int32)), i_o2 (fun x y => x + y)]) := sm_Sd.cons (sd_aload_n (i := 2) dL_law_651 rfl) (sm_Sd.cons (sd_aload_n (i := 0) dL_law_652 rfl) (sm_Sd.cons (sd_iload dL_law_653) (sm_Sd.cons (sd_iconst dL_law_655 (by first | decide | (show _ < 7; decide))) (sm_Sd.cons (sd_iadd dL_law_656) (sm_Sd.nil)))))
theorem bL_law_664 {nm : String} : sm_Sd (sm_ML nm) 20 664 665 (sm_run [i_c (.int (0 : Int32))]) := sm_Sd.cons (sd_iconst dL_law_664 (by first | decide | (show _ < 7; decide))) (sm_Sd.nil)
theorem bL_law_666 {nm : String} : sm_Sd (sm_ML nm) 20 666 667 (sm_run [i_al 1]) := sm_Sd.cons (sd_aload_n (i := 1) dL_law_666 rfl) (sm_Sd.nil)
theorem bL_law_670 {nm : String} : sm_Sd (sm_ML nm) 20 670 671 (sm_run [i_al 2]) := sm_Sd.cons (sd_aload_n (i := 2) dL_law_670 rfl) (sm_Sd.nil)
theorem bL_law_677 {nm : String} : sm_Sd (sm_ML nm) 20 677 678 (sm_run [i_c (.int (0 : Int32))]) := sm_Sd.cons (sd_iconst dL_law_677 (by first | decide | (show _ < 7; decide))) (sm_Sd.nil)
theorem bL_law_679 {nm : String} : sm_Sd (sm_ML nm) 20 679 685 (sm_run [i_al 1, i_al 0, i_il 4, i_c (.int (1 : Int32)), i_o2 (fun x y => x + y)]) := sm_Sd.cons (sd_aload_n (i := 1) dL_law_679 rfl) (sm_Sd.cons (sd_aload_n (i := 0) dL_law_680 rfl) (sm_Sd.cons (sd_iload dL_law_681) (sm_Sd.cons (sd_iconst dL_law_683 (by first | decide | (show _ < 7; decide))) (sm_Sd.cons (sd_iadd dL_law_684) (sm_Sd.nil)))))
theorem bL_law_689 {nm : String} : sm_Sd (sm_ML nm) 20 689 695 (sm_run [i_al 2, i_al 0, i_il 4, i_c (.int (1 : Int32)), i_o2 (fun x y => x + y)]) := sm_Sd.cons (sd_aload_n (i := 2) dL_law_689 rfl) (sm_Sd.cons (sd_aload_n (i := 0) dL_law_690 rfl) (sm_Sd.cons (sd_iload dL_law_691) (sm_Sd.cons (sd_iconst dL_law_693 (by first | decide | (show _ < 7; decide))) (sm_Sd.cons (sd_iadd dL_law_694) (sm_Sd.nil)))))
theorem bL_law_702 {nm : String} : sm_Sd (sm_ML nm) 20 702 703 (sm_run [i_c (.int (0 : Int32))]) := sm_Sd.cons (sd_iconst dL_law_702 (by first | decide | (show _ < 7; decide))) (sm_Sd.nil)
theorem bL_law_704 {nm : String} : sm_Sd (sm_ML nm) 20 704 705 (sm_run [i_al 1]) := sm_Sd.cons (sd_aload_n (i := 1) dL_law_704 rfl) (sm_Sd.nil)
theorem bL_law_708 {nm : String} : sm_Sd (sm_ML nm) 20 708 709 (sm_run [i_al 2]) := sm_Sd.cons (sd_aload_n (i := 2) dL_law_708 rfl) (sm_Sd.nil)
theorem bL_law_715 {nm : String} : sm_Sd (sm_ML nm) 20 715 716 (sm_run [i_c (.int (0 : Int32))]) := sm_Sd.cons (sd_iconst dL_law_715 (by first | decide | (show _ < 7; decide))) (sm_Sd.nil)
theorem bL_law_717 {nm : String} : sm_Sd (sm_ML nm) 20 717 718 (sm_run [i_al 1]) := sm_Sd.cons (sd_aload_n (i := 1) dL_law_717 rfl) (sm_Sd.nil)
theorem bL_law_721 {nm : String} : sm_Sd (sm_ML nm) 20 721 722 (sm_run [i_al 2]) := sm_Sd.cons (sd_aload_n (i := 2) dL_law_721 rfl) (sm_Sd.nil)
theorem bL_law_728 {nm : String} : sm_Sd (sm_ML nm) 20 728 729 (sm_run [i_c (.int (0 : Int32))]) := sm_Sd.cons (sd_iconst dL_law_728 (by first | decide | (show _ < 7; decide))) (sm_Sd.nil)
theorem bL_law_730 {nm : String} : sm_Sd (sm_ML nm) 20 730 736 (sm_run [i_al 1, i_al 0, i_il 4, i_c (.int (1 : Int32)), i_o2 (fun x y => x + y)]) := sm_Sd.cons (sd_aload_n (i := 1) dL_law_730 rfl) (sm_Sd.cons (sd_aload_n (i := 0) dL_law_731 rfl) (sm_Sd.cons (sd_iload dL_law_732) (sm_Sd.cons (sd_iconst dL_law_734 (by first | decide | (show _ < 7; decide))) (sm_Sd.cons (sd_iadd dL_law_735) (sm_Sd.nil)))))
theorem bL_law_740 {nm : String} : sm_Sd (sm_ML nm) 20 740 746 (sm_run [i_al 2, i_al 0, i_il 4, i_c (.int (1 : Int32)), i_o2 (fun x y => x + y)]) := sm_Sd.cons (sd_aload_n (i := 2) dL_law_740 rfl) (sm_Sd.cons (sd_aload_n (i := 0) dL_law_741 rfl) (sm_Sd.cons (sd_iload dL_law_742) (sm_Sd.cons (sd_iconst dL_law_744 (by first | decide | (show _ < 7; decide))) (sm_Sd.cons (sd_iadd dL_law_745) (sm_Sd.nil)))))
theorem bL_law_753 {nm : String} : sm_Sd (sm_ML nm) 20 753 754 (sm_run [i_c (.int (0 : Int32))]) := sm_Sd.cons (sd_iconst dL_law_753 (by first | decide | (show _ < 7; decide))) (sm_Sd.nil)
theorem bL_law_755 {nm : String} : sm_Sd (sm_ML nm) 20 755 756 (sm_run [i_al 1]) := sm_Sd.cons (sd_aload_n (i := 1) dL_law_755 rfl) (sm_Sd.nil)
theorem bL_law_759 {nm : String} : sm_Sd (sm_ML nm) 20 759 760 (sm_run [i_al 2]) := sm_Sd.cons (sd_aload_n (i := 2) dL_law_759 rfl) (sm_Sd.nil)
theorem bL_law_766 {nm : String} : sm_Sd (sm_ML nm) 20 766 767 (sm_run [i_c (.int (0 : Int32))]) := sm_Sd.cons (sd_iconst dL_law_766 (by first | decide | (show _ < 7; decide))) (sm_Sd.nil)
theorem bL_law_768 {nm : String} : sm_Sd (sm_ML nm) 20 768 769 (sm_run [i_al 1]) := sm_Sd.cons (sd_aload_n (i := 1) dL_law_768 rfl) (sm_Sd.nil)
theorem bL_law_772 {nm : String} : sm_Sd (sm_ML nm) 20 772 773 (sm_run [i_al 2]) := sm_Sd.cons (sd_aload_n (i := 2) dL_law_772 rfl) (sm_Sd.nil)
theorem bL_law_779 {nm : String} : sm_Sd (sm_ML nm) 20 779 780 (sm_run [i_c (.int (0 : Int32))]) := sm_Sd.cons (sd_iconst dL_law_779 (by first | decide | (show _ < 7; decide))) (sm_Sd.nil)
theorem bL_law_781 {nm : String} : sm_Sd (sm_ML nm) 20 781 782 (sm_run [i_al 1]) := sm_Sd.cons (sd_aload_n (i := 1) dL_law_781 rfl) (sm_Sd.nil)
theorem bL_law_785 {nm : String} : sm_Sd (sm_ML nm) 20 785 786 (sm_run [i_al 2]) := sm_Sd.cons (sd_aload_n (i := 2) dL_law_785 rfl) (sm_Sd.nil)
theorem bL_law_792 {nm : String} : sm_Sd (sm_ML nm) 20 792 793 (sm_run [i_c (.int (0 : Int32))]) := sm_Sd.cons (sd_iconst dL_law_792 (by first | decide | (show _ < 7; decide))) (sm_Sd.nil)
theorem bL_law_794 {nm : String} : sm_Sd (sm_ML nm) 20 794 800 (sm_run [i_al 1, i_al 0, i_il 4, i_c (.int (1 : Int32)), i_o2 (fun x y => x + y)]) := sm_Sd.cons (sd_aload_n (i := 1) dL_law_794 rfl) (sm_Sd.cons (sd_aload_n (i := 0) dL_law_795 rfl) (sm_Sd.cons (sd_iload dL_law_796) (sm_Sd.cons (sd_iconst dL_law_798 (by first | decide | (show _ < 7; decide))) (sm_Sd.cons (sd_iadd dL_law_799) (sm_Sd.nil)))))
theorem bL_law_801 {nm : String} : sm_Sd (sm_ML nm) 20 801 806 (sm_run [i_al 0, i_il 4, i_c (.int (2 : Int32)), i_o2 (fun x y => x + y)]) := sm_Sd.cons (sd_aload_n (i := 0) dL_law_801 rfl) (sm_Sd.cons (sd_iload dL_law_802) (sm_Sd.cons (sd_iconst dL_law_804 (by first | decide | (show _ < 7; decide))) (sm_Sd.cons (sd_iadd dL_law_805) (sm_Sd.nil))))
theorem bL_law_810 {nm : String} : sm_Sd (sm_ML nm) 20 810 816 (sm_run [i_al 2, i_al 0, i_il 4, i_c (.int (1 : Int32)), i_o2 (fun x y => x + y)]) := sm_Sd.cons (sd_aload_n (i := 2) dL_law_810 rfl) (sm_Sd.cons (sd_aload_n (i := 0) dL_law_811 rfl) (sm_Sd.cons (sd_iload dL_law_812) (sm_Sd.cons (sd_iconst dL_law_814 (by first | decide | (show _ < 7; decide))) (sm_Sd.cons (sd_iadd dL_law_815) (sm_Sd.nil)))))
theorem bL_law_817 {nm : String} : sm_Sd (sm_ML nm) 20 817 822 (sm_run [i_al 0, i_il 4, i_c (.int (2 : Int32)), i_o2 (fun x y => x + y)]) := sm_Sd.cons (sd_aload_n (i := 0) dL_law_817 rfl) (sm_Sd.cons (sd_iload dL_law_818) (sm_Sd.cons (sd_iconst dL_law_820 (by first | decide | (show _ < 7; decide))) (sm_Sd.cons (sd_iadd dL_law_821) (sm_Sd.nil))))
theorem bL_law_829 {nm : String} : sm_Sd (sm_ML nm) 20 829 830 (sm_run [i_c (.int (0 : Int32))]) := sm_Sd.cons (sd_iconst dL_law_829 (by first | decide | (show _ < 7; decide))) (sm_Sd.nil)
theorem bL_law_831 {nm : String} : sm_Sd (sm_ML nm) 20 831 837 (sm_run [i_al 1, i_al 0, i_il 4, i_c (.int (1 : Int32)), i_o2 (fun x y => x + y)]) := sm_Sd.cons (sd_aload_n (i := 1) dL_law_831 rfl) (sm_Sd.cons (sd_aload_n (i := 0) dL_law_832 rfl) (sm_Sd.cons (sd_iload dL_law_833) (sm_Sd.cons (sd_iconst dL_law_835 (by first | decide | (show _ < 7; decide))) (sm_Sd.cons (sd_iadd dL_law_836) (sm_Sd.nil)))))
theorem bL_law_838 {nm : String} : sm_Sd (sm_ML nm) 20 838 843 (sm_run [i_al 0, i_il 4, i_c (.int (2 : Int32)), i_o2 (fun x y => x + y)]) := sm_Sd.cons (sd_aload_n (i := 0) dL_law_838 rfl) (sm_Sd.cons (sd_iload dL_law_839) (sm_Sd.cons (sd_iconst dL_law_841 (by first | decide | (show _ < 7; decide))) (sm_Sd.cons (sd_iadd dL_law_842) (sm_Sd.nil))))
theorem bL_law_847 {nm : String} : sm_Sd (sm_ML nm) 20 847 853 (sm_run [i_al 2, i_al 0, i_il 4, i_c (.int (1 : Int32)), i_o2 (fun x y => x + y)]) := sm_Sd.cons (sd_aload_n (i := 2) dL_law_847 rfl) (sm_Sd.cons (sd_aload_n (i := 0) dL_law_848 rfl) (sm_Sd.cons (sd_iload dL_law_849) (sm_Sd.cons (sd_iconst dL_law_851 (by first | decide | (show _ < 7; decide))) (sm_Sd.cons (sd_iadd dL_law_852) (sm_Sd.nil)))))
theorem bL_law_854 {nm : String} : sm_Sd (sm_ML nm) 20 854 859 (sm_run [i_al 0, i_il 4, i_c (.int (2 : Int32)), i_o2 (fun x y => x + y)]) := sm_Sd.cons (sd_aload_n (i := 0) dL_law_854 rfl) (sm_Sd.cons (sd_iload dL_law_855) (sm_Sd.cons (sd_iconst dL_law_857 (by first | decide | (show _ < 7; decide))) (sm_Sd.cons (sd_iadd dL_law_858) (sm_Sd.nil))))
theorem bL_law_866 {nm : String} : sm_Sd (sm_ML nm) 20 866 867 (sm_run [i_c (.int (0 : Int32))]) := sm_Sd.cons (sd_iconst dL_law_866 (by first | decide | (show _ < 7; decide))) (sm_Sd.nil)
theorem bL_law_868 {nm : String} : sm_Sd (sm_ML nm) 20 868 874 (sm_run [i_al 1, i_al 0, i_il 4, i_c (.int (1 : Int32)), i_o2 (fun x y => x + y)]) := sm_Sd.cons (sd_aload_n (i := 1) dL_law_868 rfl) (sm_Sd.cons (sd_aload_n (i := 0) dL_law_869 rfl) (sm_Sd.cons (sd_iload dL_law_870) (sm_Sd.cons (sd_iconst dL_law_872 (by first | decide | (show _ < 7; decide))) (sm_Sd.cons (sd_iadd dL_law_873) (sm_Sd.nil)))))
theorem bL_law_875 {nm : String} : sm_Sd (sm_ML nm) 20 875 880 (sm_run [i_al 0, i_il 4, i_c (.int (2 : Int32)), i_o2 (fun x y => x + y)]) := sm_Sd.cons (sd_aload_n (i := 0) dL_law_875 rfl) (sm_Sd.cons (sd_iload dL_law_876) (sm_Sd.cons (sd_iconst dL_law_878 (by first | decide | (show _ < 7; decide))) (sm_Sd.cons (sd_iadd dL_law_879) (sm_Sd.nil))))
theorem bL_law_884 {nm : String} : sm_Sd (sm_ML nm) 20 884 890 (sm_run [i_al 2, i_al 0, i_il 4, i_c (.int (1 : Int32)), i_o2 (fun x y => x + y)]) := sm_Sd.cons (sd_aload_n (i := 2) dL_law_884 rfl) (sm_Sd.cons (sd_aload_n (i := 0) dL_law_885 rfl) (sm_Sd.cons (sd_iload dL_law_886) (sm_Sd.cons (sd_iconst dL_law_888 (by first | decide | (show _ < 7; decide))) (sm_Sd.cons (sd_iadd dL_law_889) (sm_Sd.nil)))))
theorem bL_law_891 {nm : String} : sm_Sd (sm_ML nm) 20 891 896 (sm_run [i_al 0, i_il 4, i_c (.int (2 : Int32)), i_o2 (fun x y => x + y)]) := sm_Sd.cons (sd_aload_n (i := 0) dL_law_891 rfl) (sm_Sd.cons (sd_iload dL_law_892) (sm_Sd.cons (sd_iconst dL_law_894 (by first | decide | (show _ < 7; decide))) (sm_Sd.cons (sd_iadd dL_law_895) (sm_Sd.nil))))
theorem bL_law_903 {nm : String} : sm_Sd (sm_ML nm) 20 903 904 (sm_run [i_c (.int (0 : Int32))]) := sm_Sd.cons (sd_iconst dL_law_903 (by first | decide | (show _ < 7; decide))) (sm_Sd.nil)
theorem bL_law_905 {nm : String} : sm_Sd (sm_ML nm) 20 905 906 (sm_run [i_al 1]) := sm_Sd.cons (sd_aload_n (i := 1) dL_law_905 rfl) (sm_Sd.nil)
theorem bL_law_909 {nm : String} : sm_Sd (sm_ML nm) 20 909 910 (sm_run [i_al 2]) := sm_Sd.cons (sd_aload_n (i := 2) dL_law_909 rfl) (sm_Sd.nil)
theorem bL_law_916 {nm : String} : sm_Sd (sm_ML nm) 20 916 917 (sm_run [i_c (.int (0 : Int32))]) := sm_Sd.cons (sd_iconst dL_law_916 (by first | decide | (show _ < 7; decide))) (sm_Sd.nil)
theorem bL_law_918 {nm : String} : sm_Sd (sm_ML nm) 20 918 924 (sm_run [i_al 1, i_al 0, i_il 4, i_c (.int (1 : Int32)), i_o2 (fun x y => x + y)]) := sm_Sd.cons (sd_aload_n (i := 1) dL_law_918 rfl) (sm_Sd.cons (sd_aload_n (i := 0) dL_law_919 rfl) (sm_Sd.cons (sd_iload dL_law_920) (sm_Sd.cons (sd_iconst dL_law_922 (by first | decide | (show _ < 7; decide))) (sm_Sd.cons (sd_iadd dL_law_923) (sm_Sd.nil)))))
theorem bL_law_925 {nm : String} : sm_Sd (sm_ML nm) 20 925 926 (sm_run [i_al 3]) := sm_Sd.cons (sd_aload_n (i := 3) dL_law_925 rfl) (sm_Sd.nil)
theorem bL_law_929 {nm : String} : sm_Sd (sm_ML nm) 20 929 937 (sm_run [i_is 5, i_al 2, i_al 0, i_il 4, i_c (.int (1 : Int32)), i_o2 (fun x y => x + y)]) := sm_Sd.cons (sd_istore dL_law_929 (by first | decide | (show _ < 7; decide))) (sm_Sd.cons (sd_aload_n (i := 2) dL_law_931 rfl) (sm_Sd.cons (sd_aload_n (i := 0) dL_law_932 rfl) (sm_Sd.cons (sd_iload dL_law_933) (sm_Sd.cons (sd_iconst dL_law_935 (by first | decide | (show _ < 7; decide))) (sm_Sd.cons (sd_iadd dL_law_936) (sm_Sd.nil))))))
theorem bL_law_941 {nm : String} : sm_Sd (sm_ML nm) 20 941 944 (sm_run [i_is 6, i_al 2]) := sm_Sd.cons (sd_istore dL_law_941 (by first | decide | (show _ < 7; decide))) (sm_Sd.cons (sd_aload_n (i := 2) dL_law_943 rfl) (sm_Sd.nil))
theorem bL_law_947 {nm : String} : sm_Sd (sm_ML nm) 20 947 949 (sm_run [i_il 5]) := sm_Sd.cons (sd_iload dL_law_947) (sm_Sd.nil)
theorem bL_law_954 {nm : String} : sm_Sd (sm_ML nm) 20 954 956 (sm_run [i_il 5]) := sm_Sd.cons (sd_iload dL_law_954) (sm_Sd.nil)
theorem bL_law_959 {nm : String} : sm_Sd (sm_ML nm) 20 959 966 (sm_run [i_al 3, i_c (.int (0 : Int32)), i_la, i_il 6, i_i2l, i_lcmp]) := sm_Sd.cons (sd_aload_n (i := 3) dL_law_959 rfl) (sm_Sd.cons (sd_iconst dL_law_960 (by first | decide | (show _ < 7; decide))) (sm_Sd.cons (sd_laload (i0 := 1) dL_law_961 rfl) (sm_Sd.cons (sd_iload dL_law_962) (sm_Sd.cons (sd_i2l dL_law_964) (sm_Sd.cons (sd_lcmp dL_law_965) (sm_Sd.nil))))))
theorem bL_law_969 {nm : String} : sm_Sd (sm_ML nm) 20 969 970 (sm_run [i_c (.int (0 : Int32))]) := sm_Sd.cons (sd_iconst dL_law_969 (by first | decide | (show _ < 7; decide))) (sm_Sd.nil)
theorem bL_law_952 {nm : String} : sm_Sd (sm_ML nm) 20 952 953 (sm_run [i_c (.int (0 : Int32))]) := sm_Sd.cons (sd_iconst dL_law_952 (by first | decide | (show _ < 7; decide))) (sm_Sd.nil)
theorem bL_law_974 {nm : String} : sm_Sd (sm_ML nm) 20 974 980 (sm_run [i_al 1, i_al 0, i_il 4, i_c (.int (1 : Int32)), i_o2 (fun x y => x + y)]) := sm_Sd.cons (sd_aload_n (i := 1) dL_law_974 rfl) (sm_Sd.cons (sd_aload_n (i := 0) dL_law_975 rfl) (sm_Sd.cons (sd_iload dL_law_976) (sm_Sd.cons (sd_iconst dL_law_978 (by first | decide | (show _ < 7; decide))) (sm_Sd.cons (sd_iadd dL_law_979) (sm_Sd.nil)))))
theorem bL_law_984 {nm : String} : sm_Sd (sm_ML nm) 20 984 990 (sm_run [i_al 2, i_al 0, i_il 4, i_c (.int (1 : Int32)), i_o2 (fun x y => x + y)]) := sm_Sd.cons (sd_aload_n (i := 2) dL_law_984 rfl) (sm_Sd.cons (sd_aload_n (i := 0) dL_law_985 rfl) (sm_Sd.cons (sd_iload dL_law_986) (sm_Sd.cons (sd_iconst dL_law_988 (by first | decide | (show _ < 7; decide))) (sm_Sd.cons (sd_iadd dL_law_989) (sm_Sd.nil)))))
theorem bL_law_997 {nm : String} : sm_Sd (sm_ML nm) 20 997 998 (sm_run [i_c (.int (0 : Int32))]) := sm_Sd.cons (sd_iconst dL_law_997 (by first | decide | (show _ < 7; decide))) (sm_Sd.nil)
theorem bL_law_999 {nm : String} : sm_Sd (sm_ML nm) 20 999 1005 (sm_run [i_al 1, i_al 0, i_il 4, i_c (.int (1 : Int32)), i_o2 (fun x y => x + y)]) := sm_Sd.cons (sd_aload_n (i := 1) dL_law_999 rfl) (sm_Sd.cons (sd_aload_n (i := 0) dL_law_1000 rfl) (sm_Sd.cons (sd_iload dL_law_1001) (sm_Sd.cons (sd_iconst dL_law_1003 (by first | decide | (show _ < 7; decide))) (sm_Sd.cons (sd_iadd dL_law_1004) (sm_Sd.nil)))))
theorem bL_law_1006 {nm : String} : sm_Sd (sm_ML nm) 20 1006 1011 (sm_run [i_al 0, i_il 4, i_c (.int (2 : Int32)), i_o2 (fun x y => x + y)]) := sm_Sd.cons (sd_aload_n (i := 0) dL_law_1006 rfl) (sm_Sd.cons (sd_iload dL_law_1007) (sm_Sd.cons (sd_iconst dL_law_1009 (by first | decide | (show _ < 7; decide))) (sm_Sd.cons (sd_iadd dL_law_1010) (sm_Sd.nil))))
theorem bL_law_1015 {nm : String} : sm_Sd (sm_ML nm) 20 1015 1021 (sm_run [i_al 2, i_al 0, i_il 4, i_c (.int (1 : Int32)), i_o2 (fun x y => x + y)]) := sm_Sd.cons (sd_aload_n (i := 2) dL_law_1015 rfl) (sm_Sd.cons (sd_aload_n (i := 0) dL_law_1016 rfl) (sm_Sd.cons (sd_iload dL_law_1017) (sm_Sd.cons (sd_iconst dL_law_1019 (by first | decide | (show _ < 7; decide))) (sm_Sd.cons (sd_iadd dL_law_1020) (sm_Sd.nil)))))
theorem bL_law_1022 {nm : String} : sm_Sd (sm_ML nm) 20 1022 1027 (sm_run [i_al 0, i_il 4, i_c (.int (2 : Int32)), i_o2 (fun x y => x + y)]) := sm_Sd.cons (sd_aload_n (i := 0) dL_law_1022 rfl) (sm_Sd.cons (sd_iload dL_law_1023) (sm_Sd.cons (sd_iconst dL_law_1025 (by first | decide | (show _ < 7; decide))) (sm_Sd.cons (sd_iadd dL_law_1026) (sm_Sd.nil))))
theorem bL_law_1034 {nm : String} : sm_Sd (sm_ML nm) 20 1034 1035 (sm_run [i_c (.int (0 : Int32))]) := sm_Sd.cons (sd_iconst dL_law_1034 (by first | decide | (show _ < 7; decide))) (sm_Sd.nil)
theorem bL_law_1036 {nm : String} : sm_Sd (sm_ML nm) 20 1036 1037 (sm_run [i_al 1]) := sm_Sd.cons (sd_aload_n (i := 1) dL_law_1036 rfl) (sm_Sd.nil)
theorem bL_law_1040 {nm : String} : sm_Sd (sm_ML nm) 20 1040 1041 (sm_run [i_al 2]) := sm_Sd.cons (sd_aload_n (i := 2) dL_law_1040 rfl) (sm_Sd.nil)
theorem bL_law_1047 {nm : String} : sm_Sd (sm_ML nm) 20 1047 1048 (sm_run [i_c (.int (0 : Int32))]) := sm_Sd.cons (sd_iconst dL_law_1047 (by first | decide | (show _ < 7; decide))) (sm_Sd.nil)
theorem bL_law_1049 {nm : String} : sm_Sd (sm_ML nm) 20 1049 1050 (sm_run [i_al 1]) := sm_Sd.cons (sd_aload_n (i := 1) dL_law_1049 rfl) (sm_Sd.nil)
theorem bL_law_1053 {nm : String} : sm_Sd (sm_ML nm) 20 1053 1054 (sm_run [i_al 2]) := sm_Sd.cons (sd_aload_n (i := 2) dL_law_1053 rfl) (sm_Sd.nil)
theorem bL_law_1060 {nm : String} : sm_Sd (sm_ML nm) 20 1060 1061 (sm_run [i_c (.int (0 : Int32))]) := sm_Sd.cons (sd_iconst dL_law_1060 (by first | decide | (show _ < 7; decide))) (sm_Sd.nil)
theorem bL_law_1062 {nm : String} : sm_Sd (sm_ML nm) 20 1062 1063 (sm_run [i_al 1]) := sm_Sd.cons (sd_aload_n (i := 1) dL_law_1062 rfl) (sm_Sd.nil)
theorem bL_law_1066 {nm : String} : sm_Sd (sm_ML nm) 20 1066 1067 (sm_run [i_al 2]) := sm_Sd.cons (sd_aload_n (i := 2) dL_law_1066 rfl) (sm_Sd.nil)
theorem bL_law_1073 {nm : String} : sm_Sd (sm_ML nm) 20 1073 1074 (sm_run [i_c (.int (0 : Int32))]) := sm_Sd.cons (sd_iconst dL_law_1073 (by first | decide | (show _ < 7; decide))) (sm_Sd.nil)
theorem bL_law_1075 {nm : String} : sm_Sd (sm_ML nm) 20 1075 1076 (sm_run [i_al 1]) := sm_Sd.cons (sd_aload_n (i := 1) dL_law_1075 rfl) (sm_Sd.nil)
theorem bL_law_1079 {nm : String} : sm_Sd (sm_ML nm) 20 1079 1080 (sm_run [i_al 2]) := sm_Sd.cons (sd_aload_n (i := 2) dL_law_1079 rfl) (sm_Sd.nil)
theorem bL_law_1086 {nm : String} : sm_Sd (sm_ML nm) 20 1086 1087 (sm_run [i_c (.int (0 : Int32))]) := sm_Sd.cons (sd_iconst dL_law_1086 (by first | decide | (show _ < 7; decide))) (sm_Sd.nil)
theorem bL_law_1088 {nm : String} : sm_Sd (sm_ML nm) 20 1088 1089 (sm_run [i_al 1]) := sm_Sd.cons (sd_aload_n (i := 1) dL_law_1088 rfl) (sm_Sd.nil)
theorem bL_law_1092 {nm : String} : sm_Sd (sm_ML nm) 20 1092 1093 (sm_run [i_al 2]) := sm_Sd.cons (sd_aload_n (i := 2) dL_law_1092 rfl) (sm_Sd.nil)
theorem bL_law_1099 {nm : String} : sm_Sd (sm_ML nm) 20 1099 1100 (sm_run [i_c (.int (0 : Int32))]) := sm_Sd.cons (sd_iconst dL_law_1099 (by first | decide | (show _ < 7; decide))) (sm_Sd.nil)
theorem bL_law_1101 {nm : String} : sm_Sd (sm_ML nm) 20 1101 1102 (sm_run [i_al 1]) := sm_Sd.cons (sd_aload_n (i := 1) dL_law_1101 rfl) (sm_Sd.nil)
theorem bL_law_1105 {nm : String} : sm_Sd (sm_ML nm) 20 1105 1106 (sm_run [i_al 2]) := sm_Sd.cons (sd_aload_n (i := 2) dL_law_1105 rfl) (sm_Sd.nil)
theorem bL_law_1112 {nm : String} : sm_Sd (sm_ML nm) 20 1112 1113 (sm_run [i_c (.int (0 : Int32))]) := sm_Sd.cons (sd_iconst dL_law_1112 (by first | decide | (show _ < 7; decide))) (sm_Sd.nil)
theorem bL_law_1114 {nm : String} : sm_Sd (sm_ML nm) 20 1114 1120 (sm_run [i_al 1, i_al 0, i_il 4, i_c (.int (1 : Int32)), i_o2 (fun x y => x + y)]) := sm_Sd.cons (sd_aload_n (i := 1) dL_law_1114 rfl) (sm_Sd.cons (sd_aload_n (i := 0) dL_law_1115 rfl) (sm_Sd.cons (sd_iload dL_law_1116) (sm_Sd.cons (sd_iconst dL_law_1118 (by first | decide | (show _ < 7; decide))) (sm_Sd.cons (sd_iadd dL_law_1119) (sm_Sd.nil)))))
theorem bL_law_1124 {nm : String} : sm_Sd (sm_ML nm) 20 1124 1130 (sm_run [i_al 2, i_al 0, i_il 4, i_c (.int (1 : Int32)), i_o2 (fun x y => x + y)]) := sm_Sd.cons (sd_aload_n (i := 2) dL_law_1124 rfl) (sm_Sd.cons (sd_aload_n (i := 0) dL_law_1125 rfl) (sm_Sd.cons (sd_iload dL_law_1126) (sm_Sd.cons (sd_iconst dL_law_1128 (by first | decide | (show _ < 7; decide))) (sm_Sd.cons (sd_iadd dL_law_1129) (sm_Sd.nil)))))
theorem bL_law_1137 {nm : String} : sm_Sd (sm_ML nm) 20 1137 1138 (sm_run [i_c (.int (0 : Int32))]) := sm_Sd.cons (sd_iconst dL_law_1137 (by first | decide | (show _ < 7; decide))) (sm_Sd.nil)
theorem bL_law_1139 {nm : String} : sm_Sd (sm_ML nm) 20 1139 1145 (sm_run [i_al 1, i_al 0, i_il 4, i_c (.int (1 : Int32)), i_o2 (fun x y => x + y)]) := sm_Sd.cons (sd_aload_n (i := 1) dL_law_1139 rfl) (sm_Sd.cons (sd_aload_n (i := 0) dL_law_1140 rfl) (sm_Sd.cons (sd_iload dL_law_1141) (sm_Sd.cons (sd_iconst dL_law_1143 (by first | decide | (show _ < 7; decide))) (sm_Sd.cons (sd_iadd dL_law_1144) (sm_Sd.nil)))))
theorem bL_law_1149 {nm : String} : sm_Sd (sm_ML nm) 20 1149 1155 (sm_run [i_al 2, i_al 0, i_il 4, i_c (.int (1 : Int32)), i_o2 (fun x y => x + y)]) := sm_Sd.cons (sd_aload_n (i := 2) dL_law_1149 rfl) (sm_Sd.cons (sd_aload_n (i := 0) dL_law_1150 rfl) (sm_Sd.cons (sd_iload dL_law_1151) (sm_Sd.cons (sd_iconst dL_law_1153 (by first | decide | (show _ < 7; decide))) (sm_Sd.cons (sd_iadd dL_law_1154) (sm_Sd.nil)))))
theorem bL_law_1162 {nm : String} : sm_Sd (sm_ML nm) 20 1162 1163 (sm_run [i_c (.int (0 : Int32))]) := sm_Sd.cons (sd_iconst dL_law_1162 (by first | decide | (show _ < 7; decide))) (sm_Sd.nil)
theorem bL_law_1164 {nm : String} : sm_Sd (sm_ML nm) 20 1164 1170 (sm_run [i_al 1, i_al 0, i_il 4, i_c (.int (1 : Int32)), i_o2 (fun x y => x + y)]) := sm_Sd.cons (sd_aload_n (i := 1) dL_law_1164 rfl) (sm_Sd.cons (sd_aload_n (i := 0) dL_law_1165 rfl) (sm_Sd.cons (sd_iload dL_law_1166) (sm_Sd.cons (sd_iconst dL_law_1168 (by first | decide | (show _ < 7; decide))) (sm_Sd.cons (sd_iadd dL_law_1169) (sm_Sd.nil)))))
theorem bL_law_1174 {nm : String} : sm_Sd (sm_ML nm) 20 1174 1180 (sm_run [i_al 2, i_al 0, i_il 4, i_c (.int (1 : Int32)), i_o2 (fun x y => x + y)]) := sm_Sd.cons (sd_aload_n (i := 2) dL_law_1174 rfl) (sm_Sd.cons (sd_aload_n (i := 0) dL_law_1175 rfl) (sm_Sd.cons (sd_iload dL_law_1176) (sm_Sd.cons (sd_iconst dL_law_1178 (by first | decide | (show _ < 7; decide))) (sm_Sd.cons (sd_iadd dL_law_1179) (sm_Sd.nil)))))
theorem bL_law_1187 {nm : String} : sm_Sd (sm_ML nm) 20 1187 1188 (sm_run [i_c (.int (0 : Int32))]) := sm_Sd.cons (sd_iconst dL_law_1187 (by first | decide | (show _ < 7; decide))) (sm_Sd.nil)
theorem bL_law_1189 {nm : String} : sm_Sd (sm_ML nm) 20 1189 1195 (sm_run [i_al 1, i_al 0, i_il 4, i_c (.int (1 : Int32)), i_o2 (fun x y => x + y)]) := sm_Sd.cons (sd_aload_n (i := 1) dL_law_1189 rfl) (sm_Sd.cons (sd_aload_n (i := 0) dL_law_1190 rfl) (sm_Sd.cons (sd_iload dL_law_1191) (sm_Sd.cons (sd_iconst dL_law_1193 (by first | decide | (show _ < 7; decide))) (sm_Sd.cons (sd_iadd dL_law_1194) (sm_Sd.nil)))))
theorem bL_law_1196 {nm : String} : sm_Sd (sm_ML nm) 20 1196 1197 (sm_run [i_al 3]) := sm_Sd.cons (sd_aload_n (i := 3) dL_law_1196 rfl) (sm_Sd.nil)
theorem bL_law_1200 {nm : String} : sm_Sd (sm_ML nm) 20 1200 1208 (sm_run [i_is 5, i_al 2, i_al 0, i_il 4, i_c (.int (1 : Int32)), i_o2 (fun x y => x + y)]) := sm_Sd.cons (sd_istore dL_law_1200 (by first | decide | (show _ < 7; decide))) (sm_Sd.cons (sd_aload_n (i := 2) dL_law_1202 rfl) (sm_Sd.cons (sd_aload_n (i := 0) dL_law_1203 rfl) (sm_Sd.cons (sd_iload dL_law_1204) (sm_Sd.cons (sd_iconst dL_law_1206 (by first | decide | (show _ < 7; decide))) (sm_Sd.cons (sd_iadd dL_law_1207) (sm_Sd.nil))))))
theorem bL_law_1212 {nm : String} : sm_Sd (sm_ML nm) 20 1212 1215 (sm_run [i_is 6, i_al 2]) := sm_Sd.cons (sd_istore dL_law_1212 (by first | decide | (show _ < 7; decide))) (sm_Sd.cons (sd_aload_n (i := 2) dL_law_1214 rfl) (sm_Sd.nil))
theorem bL_law_1218 {nm : String} : sm_Sd (sm_ML nm) 20 1218 1220 (sm_run [i_il 5]) := sm_Sd.cons (sd_iload dL_law_1218) (sm_Sd.nil)
theorem bL_law_1225 {nm : String} : sm_Sd (sm_ML nm) 20 1225 1227 (sm_run [i_il 5]) := sm_Sd.cons (sd_iload dL_law_1225) (sm_Sd.nil)
theorem bL_law_1230 {nm : String} : sm_Sd (sm_ML nm) 20 1230 1237 (sm_run [i_al 3, i_c (.int (0 : Int32)), i_la, i_il 6, i_i2l, i_lcmp]) := sm_Sd.cons (sd_aload_n (i := 3) dL_law_1230 rfl) (sm_Sd.cons (sd_iconst dL_law_1231 (by first | decide | (show _ < 7; decide))) (sm_Sd.cons (sd_laload (i0 := 1) dL_law_1232 rfl) (sm_Sd.cons (sd_iload dL_law_1233) (sm_Sd.cons (sd_i2l dL_law_1235) (sm_Sd.cons (sd_lcmp dL_law_1236) (sm_Sd.nil))))))
theorem bL_law_1240 {nm : String} : sm_Sd (sm_ML nm) 20 1240 1241 (sm_run [i_c (.int (0 : Int32))]) := sm_Sd.cons (sd_iconst dL_law_1240 (by first | decide | (show _ < 7; decide))) (sm_Sd.nil)
theorem bL_law_1223 {nm : String} : sm_Sd (sm_ML nm) 20 1223 1224 (sm_run [i_c (.int (0 : Int32))]) := sm_Sd.cons (sd_iconst dL_law_1223 (by first | decide | (show _ < 7; decide))) (sm_Sd.nil)
def gX11_hedge (x1 : Int32) (x2 : Int32) (m : sm_S) : Option Unit :=
  (fX2_hasHedge x1 m).bind fun r2 => if r2 = 0 then (some ()) else (if x2 < 0 then (some ()) else (if x2 ≤ (8 : Int32) then none else (some ())))
def gX11_reach (x1 : Int32) (m : sm_S) : Option Unit :=
  if (m.1 3 0) = 0 then (some ()) else (if x1 = (-1 : Int32) then none else ((fX2_hasHedge x1 m).bind fun r2 => if r2 = 0 then (some ()) else none))
def gX11_row (x1 : Int32) (m : sm_S) : Option Unit :=
  if x1 < 0 then (some ()) else (if x1 < (m.1 14 1) then none else (some ()))
set_option maxRecDepth 10000 in
theorem tgX11_hedge {l : Launch} (hl : l.stackTraces = false) (x1 : Int32) (x2 : Int32) (m : sm_S) (hf : gX11_hedge x1 x2 m = some ()) : sm_Xt l mX11_hedge 8 [.ref 0, .int x1, .int x2] (sm_hp m) := by
  refine sm_Xt.of (by decide) (Nat.le_of_ble_eq_true rfl) ?_
  intro p e s m₀ args below meth c b ba D dA hC hno hX
  show sm_At p l e (sm_rm 8 1 6) s m₀ args below meth c b ba D dA _ false 1 6 _ 0 [.ref 0, .int x1, .int x2] [] (sm_hp m)
  unfold gX11_hedge at hf
  refine j_blk hC bgX11_hedge_0 [.ref 0, .int x1, .int x2] [.int x1, .ref 3] (sm_hp m) [] rfl (sm_on) ?_
  replace hf := sm_bd hf
  obtain ⟨r2, q1, hf⟩ := hf
  refine j_callV hC [.int x1] [] (tX2_hasHedge x1 m r2 q1) (cvX11_105 rfl) dX11_hedge_5 rfl rfl (by decide) (by decide) rfl (Nat.le_of_ble_eq_true rfl) ?_
  show sm_At p l e (sm_rm 8 1 6) s m₀ args below meth c b ba D dA _ _ _ _ _ 8 [.ref 0, .int x1, .int x2] [.int r2] (sm_hp m)
  refine j_if_eq hC (tgt := 21) dX11_hedge_8 rfl (fun hc => ?_) (fun hc => ?_)
  · replace hf := sm_ift hc hf
    exact sm_thrS hl hC rfl (by decide) hno hX hX.1 dX11_hedge_21 dX11_hedge_24 dX11_hedge_25 dX11_hedge_27 dX11_hedge_30
  · replace hf := sm_iff hc hf
    refine j_blk hC bgX11_hedge_11 [.ref 0, .int x1, .int x2] [.int x2] (sm_hp m) [] rfl (sm_on) ?_
    refine j_if_lt hC (tgt := 21) dX11_hedge_12 rfl (fun hc => ?_) (fun hc => ?_)
    · replace hf := sm_ift hc hf
      exact sm_thrS hl hC rfl (by decide) hno hX hX.1 dX11_hedge_21 dX11_hedge_24 dX11_hedge_25 dX11_hedge_27 dX11_hedge_30
    · replace hf := sm_iff hc hf
      refine j_blk hC bgX11_hedge_15 [.ref 0, .int x1, .int x2] [.int (8 : Int32), .int x2] (sm_hp m) [] rfl (sm_on) ?_
      refine j_icmp_le hC (tgt := 31) dX11_hedge_18 rfl (fun hc => ?_) (fun hc => ?_)
      · replace hf := sm_ift hc hf
        cases hf
      · replace hf := sm_iff hc hf
        exact sm_thrS hl hC rfl (by decide) hno hX hX.1 dX11_hedge_21 dX11_hedge_24 dX11_hedge_25 dX11_hedge_27 dX11_hedge_30
set_option maxRecDepth 10000 in
theorem tgX11_reach {l : Launch} (hl : l.stackTraces = false) (x1 : Int32) (m : sm_S) (hf : gX11_reach x1 m = some ()) : sm_Xt l mX11_reach 8 [.ref 0, .int x1] (sm_hp m) := by
  refine sm_Xt.of (by decide) (Nat.le_of_ble_eq_true rfl) ?_
  intro p e s m₀ args below meth c b ba D dA hC hno hX
  show sm_At p l e (sm_rm 8 1 6) s m₀ args below meth c b ba D dA _ false 1 6 _ 0 [.ref 0, .int x1, .retAddr 0, .retAddr 0] [] (sm_hp m)
  unfold gX11_reach at hf
  refine j_blk hC bgX11_reach_0 [.ref 0, .int x1, .retAddr 0, .retAddr 0] [.int (m.1 3 0)] (sm_hp m) [] rfl (sm_on) ?_
  refine j_if_eq hC (tgt := 26) dX11_reach_7 rfl (fun hc => ?_) (fun hc => ?_)
  · replace hf := sm_ift hc hf
    exact sm_thrSW hl hC rfl (by decide) hno hX hX.2.1 dX11_reach_26 dX11_reach_29 dX11_reach_30 dX11_reach_33 dX11_reach_36
  · replace hf := sm_iff hc hf
    refine j_blk hC bgX11_reach_10 [.ref 0, .int x1, .retAddr 0, .retAddr 0] [.int (-1 : Int32), .int x1] (sm_hp m) [] rfl (sm_on) ?_
    refine j_icmp_eq hC (tgt := 37) dX11_reach_12 rfl (fun hc => ?_) (fun hc => ?_)
    · replace hf := sm_ift hc hf
      cases hf
    · replace hf := sm_iff hc hf
      refine j_blk hC bgX11_reach_15 [.ref 0, .int x1, .retAddr 0, .retAddr 0] [.int x1, .ref 3] (sm_hp m) [] rfl (sm_on) ?_
      replace hf := sm_bd hf
      obtain ⟨r2, q1, hf⟩ := hf
      refine j_callV hC [.int x1] [] (tX2_hasHedge x1 m r2 q1) (cvX11_105 rfl) dX11_reach_20 rfl rfl (by decide) (by decide) rfl (Nat.le_of_ble_eq_true rfl) ?_
      show sm_At p l e (sm_rm 8 1 6) s m₀ args below meth c b ba D dA _ _ _ _ _ 23 [.ref 0, .int x1, .retAddr 0, .retAddr 0] [.int r2] (sm_hp m)
      refine j_if_ne hC (tgt := 37) dX11_reach_23 rfl (fun hc => ?_) (fun hc => ?_)
      · replace hf := sm_iff hc hf
        cases hf
      · replace hf := sm_ift hc hf
        exact sm_thrSW hl hC rfl (by decide) hno hX hX.2.1 dX11_reach_26 dX11_reach_29 dX11_reach_30 dX11_reach_33 dX11_reach_36
set_option maxRecDepth 10000 in
theorem tgX11_row {l : Launch} (hl : l.stackTraces = false) (x1 : Int32) (m : sm_S) (hf : gX11_row x1 m = some ()) : sm_Xt l mX11_row 8 [.ref 0, .int x1] (sm_hp m) := by
  refine sm_Xt.of (by decide) (Nat.le_of_ble_eq_true rfl) ?_
  intro p e s m₀ args below meth c b ba D dA hC hno hX
  show sm_At p l e (sm_rm 8 1 6) s m₀ args below meth c b ba D dA _ false 1 6 _ 0 [.ref 0, .int x1] [] (sm_hp m)
  unfold gX11_row at hf
  refine j_blk hC bgX11_row_0 [.ref 0, .int x1] [.int x1] (sm_hp m) [] rfl (sm_on) ?_
  refine j_if_lt hC (tgt := 15) dX11_row_1 rfl (fun hc => ?_) (fun hc => ?_)
  · replace hf := sm_ift hc hf
    exact sm_thrSW hl hC rfl (by decide) hno hX hX.2.2.1 dX11_row_15 dX11_row_18 dX11_row_19 dX11_row_22 dX11_row_25
  · replace hf := sm_iff hc hf
    refine j_blk hC bgX11_row_4 [.ref 0, .int x1] [.int (m.1 14 1), .int x1] (sm_hp m) [] rfl (sm_on) ?_
    refine j_icmp_lt hC (tgt := 26) dX11_row_12 rfl (fun hc => ?_) (fun hc => ?_)
    · replace hf := sm_ift hc hf
      cases hf
    · replace hf := sm_iff hc hf
      exact sm_thrSW hl hC rfl (by decide) hno hX hX.2.2.1 dX11_row_15 dX11_row_18 dX11_row_19 dX11_row_22 dX11_row_25
def mL_hedge : sm_M := (yL_hedge, cL_hedge, 5, some .int)
theorem wcwL_hedge : Cond.codeWith mL_hedge.1 mL_hedge.2.1 mL_hedge.2.2.1 mL_hedge.2.2.2 [(0, 10, 13, 13)] ∈ sm_G := sm_in 1088 (by decide +kernel) rfl
theorem bL_hedge_0 : sm_Sd mL_hedge 10 0 5 (sm_run [i_al 3, i_c (.int (0 : Int32)), i_al 0, i_il 1, i_il 2]) := sm_Sd.cons (sd_aload_n (i := 3) dL_hedge_0 rfl) (sm_Sd.cons (sd_iconst dL_hedge_1 (by decide)) (sm_Sd.cons (sd_aload_n (i := 0) dL_hedge_2 rfl) (sm_Sd.cons (sd_iload_n (i := 1) dL_hedge_3 rfl) (sm_Sd.cons (sd_iload_n (i := 2) dL_hedge_4 rfl) (sm_Sd.nil)))))
theorem bL_hedge_8 : sm_Sd mL_hedge 10 8 10 (sm_run [i_i2l, i_ls_a]) := sm_Sd.cons (sd_i2l dL_hedge_8) (sm_Sd.cons (sd_lastore (i0 := 1) dL_hedge_9 rfl) (sm_Sd.nil))
theorem bL_hedge_15 : sm_Sd mL_hedge 10 15 16 (sm_run [i_c (.int (1 : Int32))]) := sm_Sd.cons (sd_iconst dL_hedge_15 (by decide)) (sm_Sd.nil)
theorem bL_hedge_17 : sm_Sd mL_hedge 10 17 18 (sm_run [i_c (.int (0 : Int32))]) := sm_Sd.cons (sd_iconst dL_hedge_17 (by decide)) (sm_Sd.nil)
def fL_hedge (x1 : Int32) (x2 : Int32) (m : sm_S) : Option (Int32 × sm_S) :=
  match fX11_hedge x1 x2 m with
  | some r => some (0, sm_w2 m 107 0 r.toInt64)
  | none => match gX11_hedge x1 x2 m with
    | some _ => some (1, m)
    | none => none
set_option maxRecDepth 10000 in
theorem tL_hedge {l : Launch} (hl : l.stackTraces = false) (x1 : Int32) (x2 : Int32) (m : sm_S) (r : Int32 × sm_S) (hf : fL_hedge x1 x2 m = some r) : sm_RtH l mL_hedge [(0, 10, 13, 13)] 10 1 6 [.ref 0, .int x1, .int x2, .ref 107] (sm_hp m) (some (.int r.1), sm_hp r.2) := by
  refine sm_RtH.of (by decide) (Nat.le_of_ble_eq_true rfl) ?_
  intro p e s m₀ args below meth c b ba D dA hC htb hX
  show sm_At p l e (sm_rm 10 1 6) s m₀ args below meth c b ba D dA _ false 1 6 _ 0 [.ref 0, .int x1, .int x2, .ref 107, .retAddr 0] [] (sm_hp m)
  unfold fL_hedge at hf
  cases h1 : fX11_hedge x1 x2 m with
  | some r1 =>
    rw [h1] at hf
    obtain rfl := Option.some.inj hf
    refine j_blk hC bL_hedge_0 [.ref 0, .int x1, .int x2, .ref 107, .retAddr 0] [.int x2, .int x1, .ref 0, .int (0 : Int32), .ref 107] (sm_hp m) [] rfl sm_on ?_
    refine j_callV hC [.int x1, .int x2] [.int (0 : Int32), .ref 107] (tX11_hedge x1 x2 m r1 h1) (cvL_7 rfl) dL_hedge_5 rfl rfl (by decide) (by decide) rfl (Nat.le_of_ble_eq_true rfl) ?_
    show sm_At p l e (sm_rm 10 1 6) s m₀ args below meth c b ba D dA _ _ _ _ _ 8 [.ref 0, .int x1, .int x2, .ref 107, .retAddr 0] [.int r1, .int (0 : Int32), .ref 107] (sm_hp m)
    refine j_blk hC bL_hedge_8 [.ref 0, .int x1, .int x2, .ref 107, .retAddr 0] [] (sm_hp (sm_w2 m 107 0 r1.toInt64)) [((0 : Int32), 1)] rfl (sm_oc (by decide) sm_on) ?_
    refine j_goto hC (tgt := 17) dL_hedge_10 rfl ?_
    refine j_blk hC bL_hedge_17 [.ref 0, .int x1, .int x2, .ref 107, .retAddr 0] [.int (0 : Int32)] (sm_hp (sm_w2 m 107 0 r1.toInt64)) [] rfl sm_on ?_
    exact jm_reti hC dL_hedge_18 rfl rfl (fun q => Bool.noConfusion q)
  | none =>
    rw [h1] at hf
    cases h2 : gX11_hedge x1 x2 m with
    | none => rw [h2] at hf; cases hf
    | some u =>
      rw [h2] at hf
      obtain rfl := Option.some.inj hf
      refine j_blk hC bL_hedge_0 [.ref 0, .int x1, .int x2, .ref 107, .retAddr 0] [.int x2, .int x1, .ref 0, .int (0 : Int32), .ref 107] (sm_hp m) [] rfl sm_on ?_
      refine jm_callX (rc := 0) (rs := 0) [.int x1, .int x2] [.int (0 : Int32), .ref 107] (tgX11_hedge hl x1 x2 m h2) hC hX (htb.trans rfl) rfl (by decide) wL_13 (cvL_7 rfl) dL_hedge_5 rfl rfl (by decide) (by decide) rfl (Nat.le_of_ble_eq_true rfl) ?_
      intro H locs cells slots ls q hP hS hl9 q1 q2
      refine lv_astore hC.1 hC.2.1 dL_hedge_13 hl9 (by decide) rfl (fun ls' hl' => ?_)
      have K : sm_At p l e (sm_rm 10 1 6) s m₀ args below meth c b ba D dA mL_hedge.2.2.1 false 0 0 (MQ below (sm_Qc b ba D dA false (some (.int (1 : Int32)), sm_hp m)) args s 1 6 (fun q => ba ≤ q)) 15 [.ref 0, .int x1, .int x2, .ref 107, .retAddr 0] [] (sm_hp m) := by
        refine j_blk hC bL_hedge_15 [.ref 0, .int x1, .int x2, .ref 107, .retAddr 0] [.int (1 : Int32)] (sm_hp m) [] rfl sm_on ?_
        exact jm_reti hC dL_hedge_16 rfl rfl (fun q => Bool.noConfusion q)
      exact K H locs cells slots ls' hP hS (fun q => Bool.noConfusion q) (sm_has_keep hl' rfl rfl) q1 q2
def mL_reach : sm_M := (yL_reach, cL_reach, 4, some .int)
theorem wcwL_reach : Cond.codeWith mL_reach.1 mL_reach.2.1 mL_reach.2.2.1 mL_reach.2.2.2 [(0, 9, 12, 13)] ∈ sm_G := sm_in 1163 (by decide +kernel) rfl
theorem bL_reach_0 : sm_Sd mL_reach 10 0 4 (sm_run [i_al 2, i_c (.int (0 : Int32)), i_al 0, i_il 1]) := sm_Sd.cons (sd_aload_n (i := 2) dL_reach_0 rfl) (sm_Sd.cons (sd_iconst dL_reach_1 (by decide)) (sm_Sd.cons (sd_aload_n (i := 0) dL_reach_2 rfl) (sm_Sd.cons (sd_iload_n (i := 1) dL_reach_3 rfl) (sm_Sd.nil))))
theorem bL_reach_7 : sm_Sd mL_reach 10 7 9 (sm_run [i_i2l, i_ls_a]) := sm_Sd.cons (sd_i2l dL_reach_7) (sm_Sd.cons (sd_lastore (i0 := 1) dL_reach_8 rfl) (sm_Sd.nil))
theorem bL_reach_13 : sm_Sd mL_reach 10 13 14 (sm_run [i_c (.int (1 : Int32))]) := sm_Sd.cons (sd_iconst dL_reach_13 (by decide)) (sm_Sd.nil)
theorem bL_reach_15 : sm_Sd mL_reach 10 15 16 (sm_run [i_c (.int (0 : Int32))]) := sm_Sd.cons (sd_iconst dL_reach_15 (by decide)) (sm_Sd.nil)
def fL_reach (x1 : Int32) (m : sm_S) : Option (Int32 × sm_S) :=
  match fX11_reach x1 m with
  | some r => some (0, sm_w2 m 107 0 r.toInt64)
  | none => match gX11_reach x1 m with
    | some _ => some (1, m)
    | none => none
set_option maxRecDepth 10000 in
theorem tL_reach {l : Launch} (hl : l.stackTraces = false) (x1 : Int32) (m : sm_S) (r : Int32 × sm_S) (hf : fL_reach x1 m = some r) : sm_RtH l mL_reach [(0, 9, 12, 13)] 10 1 6 [.ref 0, .int x1, .ref 107] (sm_hp m) (some (.int r.1), sm_hp r.2) := by
  refine sm_RtH.of (by decide) (Nat.le_of_ble_eq_true rfl) ?_
  intro p e s m₀ args below meth c b ba D dA hC htb hX
  show sm_At p l e (sm_rm 10 1 6) s m₀ args below meth c b ba D dA _ false 1 6 _ 0 [.ref 0, .int x1, .ref 107, .retAddr 0] [] (sm_hp m)
  unfold fL_reach at hf
  cases h1 : fX11_reach x1 m with
  | some r1 =>
    rw [h1] at hf
    obtain rfl := Option.some.inj hf
    refine j_blk hC bL_reach_0 [.ref 0, .int x1, .ref 107, .retAddr 0] [.int x1, .ref 0, .int (0 : Int32), .ref 107] (sm_hp m) [] rfl sm_on ?_
    refine j_callV hC [.int x1] [.int (0 : Int32), .ref 107] (tX11_reach x1 m r1 h1) (cvL_15 rfl) dL_reach_4 rfl rfl (by decide) (by decide) rfl (Nat.le_of_ble_eq_true rfl) ?_
    show sm_At p l e (sm_rm 10 1 6) s m₀ args below meth c b ba D dA _ _ _ _ _ 7 [.ref 0, .int x1, .ref 107, .retAddr 0] [.int r1, .int (0 : Int32), .ref 107] (sm_hp m)
    refine j_blk hC bL_reach_7 [.ref 0, .int x1, .ref 107, .retAddr 0] [] (sm_hp (sm_w2 m 107 0 r1.toInt64)) [((0 : Int32), 1)] rfl (sm_oc (by decide) sm_on) ?_
    refine j_goto hC (tgt := 15) dL_reach_9 rfl ?_
    refine j_blk hC bL_reach_15 [.ref 0, .int x1, .ref 107, .retAddr 0] [.int (0 : Int32)] (sm_hp (sm_w2 m 107 0 r1.toInt64)) [] rfl sm_on ?_
    exact jm_reti hC dL_reach_16 rfl rfl (fun q => Bool.noConfusion q)
  | none =>
    rw [h1] at hf
    cases h2 : gX11_reach x1 m with
    | none => rw [h2] at hf; cases hf
    | some u =>
      rw [h2] at hf
      obtain rfl := Option.some.inj hf
      refine j_blk hC bL_reach_0 [.ref 0, .int x1, .ref 107, .retAddr 0] [.int x1, .ref 0, .int (0 : Int32), .ref 107] (sm_hp m) [] rfl sm_on ?_
      refine jm_callX (rc := 0) (rs := 0) [.int x1] [.int (0 : Int32), .ref 107] (tgX11_reach hl x1 m h2) hC hX (htb.trans rfl) rfl (by decide) wL_13 (cvL_15 rfl) dL_reach_4 rfl rfl (by decide) (by decide) rfl (Nat.le_of_ble_eq_true rfl) ?_
      intro H locs cells slots ls q hP hS hl9 q1 q2
      refine lv_astore_n hC.1 hC.2.1 dL_reach_12 rfl hl9 (by decide) rfl (fun ls' hl' => ?_)
      have K : sm_At p l e (sm_rm 10 1 6) s m₀ args below meth c b ba D dA mL_reach.2.2.1 false 0 0 (MQ below (sm_Qc b ba D dA false (some (.int (1 : Int32)), sm_hp m)) args s 1 6 (fun q => ba ≤ q)) 13 [.ref 0, .int x1, .ref 107, .retAddr 0] [] (sm_hp m) := by
        refine j_blk hC bL_reach_13 [.ref 0, .int x1, .ref 107, .retAddr 0] [.int (1 : Int32)] (sm_hp m) [] rfl sm_on ?_
        exact jm_reti hC dL_reach_14 rfl rfl (fun q => Bool.noConfusion q)
      exact K H locs cells slots ls' hP hS (fun q => Bool.noConfusion q) (sm_has_keep hl' rfl rfl) q1 q2
def mL_row : sm_M := (yL_row, cL_row, 4, some .int)
theorem wcwL_row : Cond.codeWith mL_row.1 mL_row.2.1 mL_row.2.2.1 mL_row.2.2.2 [(0, 9, 12, 13)] ∈ sm_G := sm_in 1171 (by decide +kernel) rfl
theorem bL_row_0 : sm_Sd mL_row 10 0 4 (sm_run [i_al 2, i_c (.int (0 : Int32)), i_al 0, i_il 1]) := sm_Sd.cons (sd_aload_n (i := 2) dL_row_0 rfl) (sm_Sd.cons (sd_iconst dL_row_1 (by decide)) (sm_Sd.cons (sd_aload_n (i := 0) dL_row_2 rfl) (sm_Sd.cons (sd_iload_n (i := 1) dL_row_3 rfl) (sm_Sd.nil))))
theorem bL_row_7 : sm_Sd mL_row 10 7 9 (sm_run [i_i2l, i_ls_a]) := sm_Sd.cons (sd_i2l dL_row_7) (sm_Sd.cons (sd_lastore (i0 := 1) dL_row_8 rfl) (sm_Sd.nil))
theorem bL_row_13 : sm_Sd mL_row 10 13 14 (sm_run [i_c (.int (1 : Int32))]) := sm_Sd.cons (sd_iconst dL_row_13 (by decide)) (sm_Sd.nil)
theorem bL_row_15 : sm_Sd mL_row 10 15 16 (sm_run [i_c (.int (0 : Int32))]) := sm_Sd.cons (sd_iconst dL_row_15 (by decide)) (sm_Sd.nil)
def fL_row (x1 : Int32) (m : sm_S) : Option (Int32 × sm_S) :=
  match fX11_row x1 m with
  | some r => some (0, sm_w2 m 107 0 r.toInt64)
  | none => match gX11_row x1 m with
    | some _ => some (1, m)
    | none => none
set_option maxRecDepth 10000 in
theorem tL_row {l : Launch} (hl : l.stackTraces = false) (x1 : Int32) (m : sm_S) (r : Int32 × sm_S) (hf : fL_row x1 m = some r) : sm_RtH l mL_row [(0, 9, 12, 13)] 10 1 6 [.ref 0, .int x1, .ref 107] (sm_hp m) (some (.int r.1), sm_hp r.2) := by
  refine sm_RtH.of (by decide) (Nat.le_of_ble_eq_true rfl) ?_
  intro p e s m₀ args below meth c b ba D dA hC htb hX
  show sm_At p l e (sm_rm 10 1 6) s m₀ args below meth c b ba D dA _ false 1 6 _ 0 [.ref 0, .int x1, .ref 107, .retAddr 0] [] (sm_hp m)
  unfold fL_row at hf
  cases h1 : fX11_row x1 m with
  | some r1 =>
    rw [h1] at hf
    obtain rfl := Option.some.inj hf
    refine j_blk hC bL_row_0 [.ref 0, .int x1, .ref 107, .retAddr 0] [.int x1, .ref 0, .int (0 : Int32), .ref 107] (sm_hp m) [] rfl sm_on ?_
    refine j_callV hC [.int x1] [.int (0 : Int32), .ref 107] (tX11_row x1 m r1 h1) (cvL_19 rfl) dL_row_4 rfl rfl (by decide) (by decide) rfl (Nat.le_of_ble_eq_true rfl) ?_
    show sm_At p l e (sm_rm 10 1 6) s m₀ args below meth c b ba D dA _ _ _ _ _ 7 [.ref 0, .int x1, .ref 107, .retAddr 0] [.int r1, .int (0 : Int32), .ref 107] (sm_hp m)
    refine j_blk hC bL_row_7 [.ref 0, .int x1, .ref 107, .retAddr 0] [] (sm_hp (sm_w2 m 107 0 r1.toInt64)) [((0 : Int32), 1)] rfl (sm_oc (by decide) sm_on) ?_
    refine j_goto hC (tgt := 15) dL_row_9 rfl ?_
    refine j_blk hC bL_row_15 [.ref 0, .int x1, .ref 107, .retAddr 0] [.int (0 : Int32)] (sm_hp (sm_w2 m 107 0 r1.toInt64)) [] rfl sm_on ?_
    exact jm_reti hC dL_row_16 rfl rfl (fun q => Bool.noConfusion q)
  | none =>
    rw [h1] at hf
    cases h2 : gX11_row x1 m with
    | none => rw [h2] at hf; cases hf
    | some u =>
      rw [h2] at hf
      obtain rfl := Option.some.inj hf
      refine j_blk hC bL_row_0 [.ref 0, .int x1, .ref 107, .retAddr 0] [.int x1, .ref 0, .int (0 : Int32), .ref 107] (sm_hp m) [] rfl sm_on ?_
      refine jm_callX (rc := 0) (rs := 0) [.int x1] [.int (0 : Int32), .ref 107] (tgX11_row hl x1 m h2) hC hX (htb.trans rfl) rfl (by decide) wL_13 (cvL_19 rfl) dL_row_4 rfl rfl (by decide) (by decide) rfl (Nat.le_of_ble_eq_true rfl) ?_
      intro H locs cells slots ls q hP hS hl9 q1 q2
      refine lv_astore_n hC.1 hC.2.1 dL_row_12 rfl hl9 (by decide) rfl (fun ls' hl' => ?_)
      have K : sm_At p l e (sm_rm 10 1 6) s m₀ args below meth c b ba D dA mL_row.2.2.1 false 0 0 (MQ below (sm_Qc b ba D dA false (some (.int (1 : Int32)), sm_hp m)) args s 1 6 (fun q => ba ≤ q)) 13 [.ref 0, .int x1, .ref 107, .retAddr 0] [] (sm_hp m) := by
        refine j_blk hC bL_row_13 [.ref 0, .int x1, .ref 107, .retAddr 0] [.int (1 : Int32)] (sm_hp m) [] rfl sm_on ?_
        exact jm_reti hC dL_row_14 rfl rfl (fun q => Bool.noConfusion q)
      exact K H locs cells slots ls' hP hS (fun q => Bool.noConfusion q) (sm_has_keep hl' rfl rfl) q1 q2
