/-! decode rows -/
theorem dL_drop_0 : decode mL_drop.2.1 0 = .ok (.aload_n 3, 1) := by decide +kernel
theorem dL_drop_1 : decode mL_drop.2.1 1 = .ok (.iconst 0, 1) := by decide +kernel
theorem dL_drop_2 : decode mL_drop.2.1 2 = .ok (.aload_n 0, 1) := by decide +kernel
theorem dL_drop_3 : decode mL_drop.2.1 3 = .ok (.iload_n 1, 1) := by decide +kernel
theorem dL_drop_4 : decode mL_drop.2.1 4 = .ok (.iload_n 2, 1) := by decide +kernel
theorem dL_drop_5 : decode mL_drop.2.1 5 = .ok (.invokevirtual 7, 3) := by decide +kernel
theorem dL_drop_8 : decode mL_drop.2.1 8 = .ok (.i2l, 1) := by decide +kernel
theorem dL_drop_9 : decode mL_drop.2.1 9 = .ok (.lastore, 1) := by decide +kernel
theorem dL_drop_10 : decode mL_drop.2.1 10 = .ok (.goto 7, 3) := by decide +kernel
theorem dL_drop_13 : decode mL_drop.2.1 13 = .ok (.astore 4, 2) := by decide +kernel
theorem dL_drop_15 : decode mL_drop.2.1 15 = .ok (.iconst 1, 1) := by decide +kernel
theorem dL_drop_16 : decode mL_drop.2.1 16 = .ok (.ireturn, 1) := by decide +kernel
theorem dL_drop_17 : decode mL_drop.2.1 17 = .ok (.iconst 0, 1) := by decide +kernel
theorem dL_drop_18 : decode mL_drop.2.1 18 = .ok (.ireturn, 1) := by decide +kernel
theorem dL_law_0 : decode mL_law.2.1 0 = .ok (.new 8, 3) := by decide +kernel
theorem dL_law_3 : decode mL_law.2.1 3 = .ok (.dup, 1) := by decide +kernel
theorem dL_law_4 : decode mL_law.2.1 4 = .ok (.invokespecial 15, 3) := by decide +kernel
theorem dL_law_7 : decode mL_law.2.1 7 = .ok (.astore_n 1, 1) := by decide +kernel
theorem dL_law_8 : decode mL_law.2.1 8 = .ok (.new 16, 3) := by decide +kernel
theorem dL_law_11 : decode mL_law.2.1 11 = .ok (.dup, 1) := by decide +kernel
theorem dL_law_12 : decode mL_law.2.1 12 = .ok (.invokespecial 18, 3) := by decide +kernel
theorem dL_law_15 : decode mL_law.2.1 15 = .ok (.astore_n 2, 1) := by decide +kernel
theorem dL_law_16 : decode mL_law.2.1 16 = .ok (.iconst 1, 1) := by decide +kernel
theorem dL_law_17 : decode mL_law.2.1 17 = .ok (.newarray .long, 2) := by decide +kernel
theorem dL_law_19 : decode mL_law.2.1 19 = .ok (.astore_n 3, 1) := by decide +kernel
theorem dL_law_20 : decode mL_law.2.1 20 = .ok (.iconst 0, 1) := by decide +kernel
theorem dL_law_21 : decode mL_law.2.1 21 = .ok (.istore 4, 2) := by decide +kernel
theorem dL_law_23 : decode mL_law.2.1 23 = .ok (.iload 4, 2) := by decide +kernel
theorem dL_law_25 : decode mL_law.2.1 25 = .ok (.aload_n 0, 1) := by decide +kernel
theorem dL_law_26 : decode mL_law.2.1 26 = .ok (.arraylength, 1) := by decide +kernel
theorem dL_law_27 : decode mL_law.2.1 27 = .ok (.bipush 10, 2) := by decide +kernel
theorem dL_law_29 : decode mL_law.2.1 29 = .ok (.isub, 1) := by decide +kernel
theorem dL_law_30 : decode mL_law.2.1 30 = .ok (.if_icmp .gt 2733, 3) := by decide +kernel
theorem dL_law_33 : decode mL_law.2.1 33 = .ok (.aload_n 0, 1) := by decide +kernel
theorem dL_law_34 : decode mL_law.2.1 34 = .ok (.iload 4, 2) := by decide +kernel
theorem dL_law_36 : decode mL_law.2.1 36 = .ok (.iaload, 1) := by decide +kernel
theorem dL_law_37 : decode mL_law.2.1 37 = .ok (.bipush 63, 2) := by decide +kernel
theorem dL_law_39 : decode mL_law.2.1 39 = .ok (.iand, 1) := by decide +kernel
theorem dL_law_40 : decode mL_law.2.1 40 = .ok (.tableswitch 2717 0 43 #[192, 265, 290, 315, 340, 408, 433, 514, 539, 576, 601, 638, 675, 712, 737, 762, 787, 800, 825, 932, 1053, 1066, 1115, 1140, 1261, 1298, 1419, 1526, 1633, 1754, 1847, 1872, 1897, 1978, 2099, 2248, 2355, 2392, 2429, 2466, 2573, 2666, 2679, 2692], 192) := by decide +kernel
theorem dL_law_232 : decode mL_law.2.1 232 = .ok (.aload_n 1, 1) := by decide +kernel
theorem dL_law_233 : decode mL_law.2.1 233 = .ok (.aload_n 0, 1) := by decide +kernel
theorem dL_law_234 : decode mL_law.2.1 234 = .ok (.iload 4, 2) := by decide +kernel
theorem dL_law_236 : decode mL_law.2.1 236 = .ok (.iconst 1, 1) := by decide +kernel
theorem dL_law_237 : decode mL_law.2.1 237 = .ok (.iadd, 1) := by decide +kernel
theorem dL_law_238 : decode mL_law.2.1 238 = .ok (.iaload, 1) := by decide +kernel
theorem dL_law_239 : decode mL_law.2.1 239 = .ok (.aload_n 0, 1) := by decide +kernel
theorem dL_law_240 : decode mL_law.2.1 240 = .ok (.iload 4, 2) := by decide +kernel
theorem dL_law_242 : decode mL_law.2.1 242 = .ok (.iconst 2, 1) := by decide +kernel
theorem dL_law_243 : decode mL_law.2.1 243 = .ok (.iadd, 1) := by decide +kernel
theorem dL_law_244 : decode mL_law.2.1 244 = .ok (.iaload, 1) := by decide +kernel
theorem dL_law_245 : decode mL_law.2.1 245 = .ok (.aload_n 0, 1) := by decide +kernel
theorem dL_law_246 : decode mL_law.2.1 246 = .ok (.iload 4, 2) := by decide +kernel
theorem dL_law_248 : decode mL_law.2.1 248 = .ok (.iconst 3, 1) := by decide +kernel
theorem dL_law_249 : decode mL_law.2.1 249 = .ok (.iadd, 1) := by decide +kernel
theorem dL_law_250 : decode mL_law.2.1 250 = .ok (.iaload, 1) := by decide +kernel
theorem dL_law_251 : decode mL_law.2.1 251 = .ok (.aload_n 0, 1) := by decide +kernel
theorem dL_law_252 : decode mL_law.2.1 252 = .ok (.iload 4, 2) := by decide +kernel
theorem dL_law_254 : decode mL_law.2.1 254 = .ok (.iconst 4, 1) := by decide +kernel
theorem dL_law_255 : decode mL_law.2.1 255 = .ok (.iadd, 1) := by decide +kernel
theorem dL_law_256 : decode mL_law.2.1 256 = .ok (.iaload, 1) := by decide +kernel
theorem dL_law_257 : decode mL_law.2.1 257 = .ok (.aload_n 0, 1) := by decide +kernel
theorem dL_law_258 : decode mL_law.2.1 258 = .ok (.iload 4, 2) := by decide +kernel
theorem dL_law_260 : decode mL_law.2.1 260 = .ok (.iconst 5, 1) := by decide +kernel
theorem dL_law_261 : decode mL_law.2.1 261 = .ok (.iadd, 1) := by decide +kernel
theorem dL_law_262 : decode mL_law.2.1 262 = .ok (.iaload, 1) := by decide +kernel
theorem dL_law_263 : decode mL_law.2.1 263 = .ok (.invokevirtual 19, 3) := by decide +kernel
theorem dL_law_266 : decode mL_law.2.1 266 = .ok (.aload_n 2, 1) := by decide +kernel
theorem dL_law_267 : decode mL_law.2.1 267 = .ok (.aload_n 0, 1) := by decide +kernel
theorem dL_law_268 : decode mL_law.2.1 268 = .ok (.iload 4, 2) := by decide +kernel
theorem dL_law_270 : decode mL_law.2.1 270 = .ok (.iconst 1, 1) := by decide +kernel
theorem dL_law_271 : decode mL_law.2.1 271 = .ok (.iadd, 1) := by decide +kernel
theorem dL_law_272 : decode mL_law.2.1 272 = .ok (.iaload, 1) := by decide +kernel
theorem dL_law_273 : decode mL_law.2.1 273 = .ok (.aload_n 0, 1) := by decide +kernel
theorem dL_law_274 : decode mL_law.2.1 274 = .ok (.iload 4, 2) := by decide +kernel
theorem dL_law_276 : decode mL_law.2.1 276 = .ok (.iconst 2, 1) := by decide +kernel
theorem dL_law_277 : decode mL_law.2.1 277 = .ok (.iadd, 1) := by decide +kernel
theorem dL_law_278 : decode mL_law.2.1 278 = .ok (.iaload, 1) := by decide +kernel
theorem dL_law_279 : decode mL_law.2.1 279 = .ok (.aload_n 0, 1) := by decide +kernel
theorem dL_law_280 : decode mL_law.2.1 280 = .ok (.iload 4, 2) := by decide +kernel
theorem dL_law_282 : decode mL_law.2.1 282 = .ok (.iconst 3, 1) := by decide +kernel
theorem dL_law_283 : decode mL_law.2.1 283 = .ok (.iadd, 1) := by decide +kernel
theorem dL_law_284 : decode mL_law.2.1 284 = .ok (.iaload, 1) := by decide +kernel
theorem dL_law_285 : decode mL_law.2.1 285 = .ok (.aload_n 0, 1) := by decide +kernel
theorem dL_law_286 : decode mL_law.2.1 286 = .ok (.iload 4, 2) := by decide +kernel
theorem dL_law_288 : decode mL_law.2.1 288 = .ok (.iconst 4, 1) := by decide +kernel
theorem dL_law_289 : decode mL_law.2.1 289 = .ok (.iadd, 1) := by decide +kernel
theorem dL_law_290 : decode mL_law.2.1 290 = .ok (.iaload, 1) := by decide +kernel
theorem dL_law_291 : decode mL_law.2.1 291 = .ok (.aload_n 0, 1) := by decide +kernel
theorem dL_law_292 : decode mL_law.2.1 292 = .ok (.iload 4, 2) := by decide +kernel
theorem dL_law_294 : decode mL_law.2.1 294 = .ok (.iconst 5, 1) := by decide +kernel
theorem dL_law_295 : decode mL_law.2.1 295 = .ok (.iadd, 1) := by decide +kernel
theorem dL_law_296 : decode mL_law.2.1 296 = .ok (.iaload, 1) := by decide +kernel
theorem dL_law_297 : decode mL_law.2.1 297 = .ok (.invokevirtual 23, 3) := by decide +kernel
theorem dL_law_300 : decode mL_law.2.1 300 = .ok (.if_icmp .eq 2457, 3) := by decide +kernel
theorem dL_law_303 : decode mL_law.2.1 303 = .ok (.iconst 0, 1) := by decide +kernel
theorem dL_law_304 : decode mL_law.2.1 304 = .ok (.ireturn, 1) := by decide +kernel
theorem dL_law_305 : decode mL_law.2.1 305 = .ok (.aload_n 1, 1) := by decide +kernel
theorem dL_law_306 : decode mL_law.2.1 306 = .ok (.aload_n 0, 1) := by decide +kernel
theorem dL_law_307 : decode mL_law.2.1 307 = .ok (.iload 4, 2) := by decide +kernel
theorem dL_law_309 : decode mL_law.2.1 309 = .ok (.iconst 1, 1) := by decide +kernel
theorem dL_law_310 : decode mL_law.2.1 310 = .ok (.iadd, 1) := by decide +kernel
theorem dL_law_311 : decode mL_law.2.1 311 = .ok (.iaload, 1) := by decide +kernel
theorem dL_law_312 : decode mL_law.2.1 312 = .ok (.invokevirtual 24, 3) := by decide +kernel
theorem dL_law_315 : decode mL_law.2.1 315 = .ok (.aload_n 2, 1) := by decide +kernel
theorem dL_law_316 : decode mL_law.2.1 316 = .ok (.aload_n 0, 1) := by decide +kernel
theorem dL_law_317 : decode mL_law.2.1 317 = .ok (.iload 4, 2) := by decide +kernel
theorem dL_law_319 : decode mL_law.2.1 319 = .ok (.iconst 1, 1) := by decide +kernel
theorem dL_law_320 : decode mL_law.2.1 320 = .ok (.iadd, 1) := by decide +kernel
theorem dL_law_321 : decode mL_law.2.1 321 = .ok (.iaload, 1) := by decide +kernel
theorem dL_law_322 : decode mL_law.2.1 322 = .ok (.invokevirtual 28, 3) := by decide +kernel
theorem dL_law_325 : decode mL_law.2.1 325 = .ok (.if_icmp .eq 2432, 3) := by decide +kernel
theorem dL_law_328 : decode mL_law.2.1 328 = .ok (.iconst 0, 1) := by decide +kernel
theorem dL_law_329 : decode mL_law.2.1 329 = .ok (.ireturn, 1) := by decide +kernel
theorem dL_law_330 : decode mL_law.2.1 330 = .ok (.aload_n 1, 1) := by decide +kernel
theorem dL_law_331 : decode mL_law.2.1 331 = .ok (.aload_n 0, 1) := by decide +kernel
theorem dL_law_332 : decode mL_law.2.1 332 = .ok (.iload 4, 2) := by decide +kernel
theorem dL_law_334 : decode mL_law.2.1 334 = .ok (.iconst 1, 1) := by decide +kernel
theorem dL_law_335 : decode mL_law.2.1 335 = .ok (.iadd, 1) := by decide +kernel
theorem dL_law_336 : decode mL_law.2.1 336 = .ok (.iaload, 1) := by decide +kernel
theorem dL_law_337 : decode mL_law.2.1 337 = .ok (.invokevirtual 29, 3) := by decide +kernel
theorem dL_law_340 : decode mL_law.2.1 340 = .ok (.aload_n 2, 1) := by decide +kernel
theorem dL_law_341 : decode mL_law.2.1 341 = .ok (.aload_n 0, 1) := by decide +kernel
theorem dL_law_342 : decode mL_law.2.1 342 = .ok (.iload 4, 2) := by decide +kernel
theorem dL_law_344 : decode mL_law.2.1 344 = .ok (.iconst 1, 1) := by decide +kernel
theorem dL_law_345 : decode mL_law.2.1 345 = .ok (.iadd, 1) := by decide +kernel
theorem dL_law_346 : decode mL_law.2.1 346 = .ok (.iaload, 1) := by decide +kernel
theorem dL_law_347 : decode mL_law.2.1 347 = .ok (.invokevirtual 33, 3) := by decide +kernel
theorem dL_law_350 : decode mL_law.2.1 350 = .ok (.if_icmp .eq 2407, 3) := by decide +kernel
theorem dL_law_353 : decode mL_law.2.1 353 = .ok (.iconst 0, 1) := by decide +kernel
theorem dL_law_354 : decode mL_law.2.1 354 = .ok (.ireturn, 1) := by decide +kernel
theorem dL_law_355 : decode mL_law.2.1 355 = .ok (.aload_n 1, 1) := by decide +kernel
theorem dL_law_356 : decode mL_law.2.1 356 = .ok (.aload_n 0, 1) := by decide +kernel
theorem dL_law_357 : decode mL_law.2.1 357 = .ok (.iload 4, 2) := by decide +kernel
theorem dL_law_359 : decode mL_law.2.1 359 = .ok (.iconst 1, 1) := by decide +kernel
theorem dL_law_360 : decode mL_law.2.1 360 = .ok (.iadd, 1) := by decide +kernel
theorem dL_law_361 : decode mL_law.2.1 361 = .ok (.iaload, 1) := by decide +kernel
theorem dL_law_362 : decode mL_law.2.1 362 = .ok (.invokevirtual 34, 3) := by decide +kernel
theorem dL_law_365 : decode mL_law.2.1 365 = .ok (.aload_n 2, 1) := by decide +kernel
theorem dL_law_366 : decode mL_law.2.1 366 = .ok (.aload_n 0, 1) := by decide +kernel
theorem dL_law_367 : decode mL_law.2.1 367 = .ok (.iload 4, 2) := by decide +kernel
theorem dL_law_369 : decode mL_law.2.1 369 = .ok (.iconst 1, 1) := by decide +kernel
theorem dL_law_370 : decode mL_law.2.1 370 = .ok (.iadd, 1) := by decide +kernel
theorem dL_law_371 : decode mL_law.2.1 371 = .ok (.iaload, 1) := by decide +kernel
theorem dL_law_372 : decode mL_law.2.1 372 = .ok (.invokevirtual 37, 3) := by decide +kernel
theorem dL_law_375 : decode mL_law.2.1 375 = .ok (.if_icmp .eq 2382, 3) := by decide +kernel
theorem dL_law_378 : decode mL_law.2.1 378 = .ok (.iconst 0, 1) := by decide +kernel
theorem dL_law_379 : decode mL_law.2.1 379 = .ok (.ireturn, 1) := by decide +kernel
theorem dL_law_380 : decode mL_law.2.1 380 = .ok (.aload_n 1, 1) := by decide +kernel
theorem dL_law_381 : decode mL_law.2.1 381 = .ok (.aload_n 0, 1) := by decide +kernel
theorem dL_law_382 : decode mL_law.2.1 382 = .ok (.iload 4, 2) := by decide +kernel
theorem dL_law_384 : decode mL_law.2.1 384 = .ok (.iconst 1, 1) := by decide +kernel
theorem dL_law_385 : decode mL_law.2.1 385 = .ok (.iadd, 1) := by decide +kernel
theorem dL_law_386 : decode mL_law.2.1 386 = .ok (.iaload, 1) := by decide +kernel
theorem dL_law_387 : decode mL_law.2.1 387 = .ok (.aload_n 0, 1) := by decide +kernel
theorem dL_law_388 : decode mL_law.2.1 388 = .ok (.iload 4, 2) := by decide +kernel
theorem dL_law_390 : decode mL_law.2.1 390 = .ok (.iconst 2, 1) := by decide +kernel
theorem dL_law_391 : decode mL_law.2.1 391 = .ok (.iadd, 1) := by decide +kernel
theorem dL_law_392 : decode mL_law.2.1 392 = .ok (.iaload, 1) := by decide +kernel
theorem dL_law_393 : decode mL_law.2.1 393 = .ok (.aload_n 3, 1) := by decide +kernel
theorem dL_law_394 : decode mL_law.2.1 394 = .ok (.invokestatic 38, 3) := by decide +kernel
theorem dL_law_397 : decode mL_law.2.1 397 = .ok (.istore 5, 2) := by decide +kernel
theorem dL_law_399 : decode mL_law.2.1 399 = .ok (.aload_n 2, 1) := by decide +kernel
theorem dL_law_400 : decode mL_law.2.1 400 = .ok (.aload_n 0, 1) := by decide +kernel
theorem dL_law_401 : decode mL_law.2.1 401 = .ok (.iload 4, 2) := by decide +kernel
theorem dL_law_403 : decode mL_law.2.1 403 = .ok (.iconst 1, 1) := by decide +kernel
theorem dL_law_404 : decode mL_law.2.1 404 = .ok (.iadd, 1) := by decide +kernel
theorem dL_law_405 : decode mL_law.2.1 405 = .ok (.iaload, 1) := by decide +kernel
theorem dL_law_406 : decode mL_law.2.1 406 = .ok (.aload_n 0, 1) := by decide +kernel
theorem dL_law_407 : decode mL_law.2.1 407 = .ok (.iload 4, 2) := by decide +kernel
theorem dL_law_409 : decode mL_law.2.1 409 = .ok (.iconst 2, 1) := by decide +kernel
theorem dL_law_410 : decode mL_law.2.1 410 = .ok (.iadd, 1) := by decide +kernel
theorem dL_law_411 : decode mL_law.2.1 411 = .ok (.iaload, 1) := by decide +kernel
theorem dL_law_412 : decode mL_law.2.1 412 = .ok (.invokevirtual 43, 3) := by decide +kernel
theorem dL_law_415 : decode mL_law.2.1 415 = .ok (.istore 6, 2) := by decide +kernel
theorem dL_law_417 : decode mL_law.2.1 417 = .ok (.aload_n 2, 1) := by decide +kernel
theorem dL_law_418 : decode mL_law.2.1 418 = .ok (.invokevirtual 44, 3) := by decide +kernel
theorem dL_law_421 : decode mL_law.2.1 421 = .ok (.iload 5, 2) := by decide +kernel
theorem dL_law_423 : decode mL_law.2.1 423 = .ok (.if_icmp .eq 5, 3) := by decide +kernel
theorem dL_law_426 : decode mL_law.2.1 426 = .ok (.iconst 0, 1) := by decide +kernel
theorem dL_law_427 : decode mL_law.2.1 427 = .ok (.ireturn, 1) := by decide +kernel
theorem dL_law_428 : decode mL_law.2.1 428 = .ok (.iload 5, 2) := by decide +kernel
theorem dL_law_430 : decode mL_law.2.1 430 = .ok (.ifCond .ne 15, 3) := by decide +kernel
theorem dL_law_433 : decode mL_law.2.1 433 = .ok (.aload_n 3, 1) := by decide +kernel
theorem dL_law_434 : decode mL_law.2.1 434 = .ok (.iconst 0, 1) := by decide +kernel
theorem dL_law_435 : decode mL_law.2.1 435 = .ok (.laload, 1) := by decide +kernel
theorem dL_law_436 : decode mL_law.2.1 436 = .ok (.iload 6, 2) := by decide +kernel
theorem dL_law_438 : decode mL_law.2.1 438 = .ok (.i2l, 1) := by decide +kernel
theorem dL_law_439 : decode mL_law.2.1 439 = .ok (.lcmp, 1) := by decide +kernel
theorem dL_law_440 : decode mL_law.2.1 440 = .ok (.ifCond .eq 5, 3) := by decide +kernel
theorem dL_law_443 : decode mL_law.2.1 443 = .ok (.iconst 0, 1) := by decide +kernel
theorem dL_law_444 : decode mL_law.2.1 444 = .ok (.ireturn, 1) := by decide +kernel
theorem dL_law_445 : decode mL_law.2.1 445 = .ok (.goto 2312, 3) := by decide +kernel
theorem dL_law_448 : decode mL_law.2.1 448 = .ok (.aload_n 1, 1) := by decide +kernel
theorem dL_law_449 : decode mL_law.2.1 449 = .ok (.aload_n 0, 1) := by decide +kernel
theorem dL_law_450 : decode mL_law.2.1 450 = .ok (.iload 4, 2) := by decide +kernel
theorem dL_law_452 : decode mL_law.2.1 452 = .ok (.iconst 1, 1) := by decide +kernel
theorem dL_law_453 : decode mL_law.2.1 453 = .ok (.iadd, 1) := by decide +kernel
theorem dL_law_454 : decode mL_law.2.1 454 = .ok (.iaload, 1) := by decide +kernel
theorem dL_law_455 : decode mL_law.2.1 455 = .ok (.invokevirtual 48, 3) := by decide +kernel
theorem dL_law_458 : decode mL_law.2.1 458 = .ok (.aload_n 2, 1) := by decide +kernel
theorem dL_law_459 : decode mL_law.2.1 459 = .ok (.aload_n 0, 1) := by decide +kernel
theorem dL_law_460 : decode mL_law.2.1 460 = .ok (.iload 4, 2) := by decide +kernel
theorem dL_law_462 : decode mL_law.2.1 462 = .ok (.iconst 1, 1) := by decide +kernel
theorem dL_law_463 : decode mL_law.2.1 463 = .ok (.iadd, 1) := by decide +kernel
theorem dL_law_464 : decode mL_law.2.1 464 = .ok (.iaload, 1) := by decide +kernel
theorem dL_law_465 : decode mL_law.2.1 465 = .ok (.invokevirtual 51, 3) := by decide +kernel
theorem dL_law_468 : decode mL_law.2.1 468 = .ok (.if_icmp .eq 2289, 3) := by decide +kernel
theorem dL_law_471 : decode mL_law.2.1 471 = .ok (.iconst 0, 1) := by decide +kernel
theorem dL_law_472 : decode mL_law.2.1 472 = .ok (.ireturn, 1) := by decide +kernel
theorem dL_law_473 : decode mL_law.2.1 473 = .ok (.aload_n 1, 1) := by decide +kernel
theorem dL_law_474 : decode mL_law.2.1 474 = .ok (.aload_n 0, 1) := by decide +kernel
theorem dL_law_475 : decode mL_law.2.1 475 = .ok (.iload 4, 2) := by decide +kernel
theorem dL_law_477 : decode mL_law.2.1 477 = .ok (.iconst 1, 1) := by decide +kernel
theorem dL_law_478 : decode mL_law.2.1 478 = .ok (.iadd, 1) := by decide +kernel
theorem dL_law_479 : decode mL_law.2.1 479 = .ok (.iaload, 1) := by decide +kernel
theorem dL_law_480 : decode mL_law.2.1 480 = .ok (.aload_n 0, 1) := by decide +kernel
theorem dL_law_481 : decode mL_law.2.1 481 = .ok (.iload 4, 2) := by decide +kernel
theorem dL_law_483 : decode mL_law.2.1 483 = .ok (.iconst 2, 1) := by decide +kernel
theorem dL_law_484 : decode mL_law.2.1 484 = .ok (.iadd, 1) := by decide +kernel
theorem dL_law_485 : decode mL_law.2.1 485 = .ok (.iaload, 1) := by decide +kernel
theorem dL_law_486 : decode mL_law.2.1 486 = .ok (.aload_n 0, 1) := by decide +kernel
theorem dL_law_487 : decode mL_law.2.1 487 = .ok (.iload 4, 2) := by decide +kernel
theorem dL_law_489 : decode mL_law.2.1 489 = .ok (.iconst 3, 1) := by decide +kernel
theorem dL_law_490 : decode mL_law.2.1 490 = .ok (.iadd, 1) := by decide +kernel
theorem dL_law_491 : decode mL_law.2.1 491 = .ok (.iaload, 1) := by decide +kernel
theorem dL_law_492 : decode mL_law.2.1 492 = .ok (.i2l, 1) := by decide +kernel
theorem dL_law_493 : decode mL_law.2.1 493 = .ok (.bipush 32, 2) := by decide +kernel
theorem dL_law_495 : decode mL_law.2.1 495 = .ok (.lshl, 1) := by decide +kernel
theorem dL_law_496 : decode mL_law.2.1 496 = .ok (.aload_n 0, 1) := by decide +kernel
theorem dL_law_497 : decode mL_law.2.1 497 = .ok (.iload 4, 2) := by decide +kernel
theorem dL_law_499 : decode mL_law.2.1 499 = .ok (.iconst 4, 1) := by decide +kernel
theorem dL_law_500 : decode mL_law.2.1 500 = .ok (.iadd, 1) := by decide +kernel
theorem dL_law_501 : decode mL_law.2.1 501 = .ok (.iaload, 1) := by decide +kernel
theorem dL_law_502 : decode mL_law.2.1 502 = .ok (.i2l, 1) := by decide +kernel
theorem dL_law_503 : decode mL_law.2.1 503 = .ok (.ldc2_w 52, 3) := by decide +kernel
theorem dL_law_506 : decode mL_law.2.1 506 = .ok (.land, 1) := by decide +kernel
theorem dL_law_507 : decode mL_law.2.1 507 = .ok (.lor, 1) := by decide +kernel
theorem dL_law_508 : decode mL_law.2.1 508 = .ok (.invokevirtual 54, 3) := by decide +kernel
theorem dL_law_511 : decode mL_law.2.1 511 = .ok (.aload_n 2, 1) := by decide +kernel
theorem dL_law_512 : decode mL_law.2.1 512 = .ok (.aload_n 0, 1) := by decide +kernel
theorem dL_law_513 : decode mL_law.2.1 513 = .ok (.iload 4, 2) := by decide +kernel
theorem dL_law_515 : decode mL_law.2.1 515 = .ok (.iconst 1, 1) := by decide +kernel
theorem dL_law_516 : decode mL_law.2.1 516 = .ok (.iadd, 1) := by decide +kernel
theorem dL_law_517 : decode mL_law.2.1 517 = .ok (.iaload, 1) := by decide +kernel
theorem dL_law_518 : decode mL_law.2.1 518 = .ok (.aload_n 0, 1) := by decide +kernel
theorem dL_law_519 : decode mL_law.2.1 519 = .ok (.iload 4, 2) := by decide +kernel
theorem dL_law_521 : decode mL_law.2.1 521 = .ok (.iconst 2, 1) := by decide +kernel
theorem dL_law_522 : decode mL_law.2.1 522 = .ok (.iadd, 1) := by decide +kernel
theorem dL_law_523 : decode mL_law.2.1 523 = .ok (.iaload, 1) := by decide +kernel
theorem dL_law_524 : decode mL_law.2.1 524 = .ok (.aload_n 0, 1) := by decide +kernel
theorem dL_law_525 : decode mL_law.2.1 525 = .ok (.iload 4, 2) := by decide +kernel
theorem dL_law_527 : decode mL_law.2.1 527 = .ok (.iconst 3, 1) := by decide +kernel
theorem dL_law_528 : decode mL_law.2.1 528 = .ok (.iadd, 1) := by decide +kernel
theorem dL_law_529 : decode mL_law.2.1 529 = .ok (.iaload, 1) := by decide +kernel
theorem dL_law_530 : decode mL_law.2.1 530 = .ok (.i2l, 1) := by decide +kernel
theorem dL_law_531 : decode mL_law.2.1 531 = .ok (.bipush 32, 2) := by decide +kernel
theorem dL_law_533 : decode mL_law.2.1 533 = .ok (.lshl, 1) := by decide +kernel
theorem dL_law_534 : decode mL_law.2.1 534 = .ok (.aload_n 0, 1) := by decide +kernel
theorem dL_law_535 : decode mL_law.2.1 535 = .ok (.iload 4, 2) := by decide +kernel
theorem dL_law_537 : decode mL_law.2.1 537 = .ok (.iconst 4, 1) := by decide +kernel
theorem dL_law_538 : decode mL_law.2.1 538 = .ok (.iadd, 1) := by decide +kernel
theorem dL_law_539 : decode mL_law.2.1 539 = .ok (.iaload, 1) := by decide +kernel
theorem dL_law_540 : decode mL_law.2.1 540 = .ok (.i2l, 1) := by decide +kernel
theorem dL_law_541 : decode mL_law.2.1 541 = .ok (.ldc2_w 52, 3) := by decide +kernel
theorem dL_law_544 : decode mL_law.2.1 544 = .ok (.land, 1) := by decide +kernel
theorem dL_law_545 : decode mL_law.2.1 545 = .ok (.lor, 1) := by decide +kernel
theorem dL_law_546 : decode mL_law.2.1 546 = .ok (.invokevirtual 58, 3) := by decide +kernel
theorem dL_law_549 : decode mL_law.2.1 549 = .ok (.if_icmp .eq 2208, 3) := by decide +kernel
theorem dL_law_552 : decode mL_law.2.1 552 = .ok (.iconst 0, 1) := by decide +kernel
theorem dL_law_553 : decode mL_law.2.1 553 = .ok (.ireturn, 1) := by decide +kernel
theorem dL_law_554 : decode mL_law.2.1 554 = .ok (.aload_n 1, 1) := by decide +kernel
theorem dL_law_555 : decode mL_law.2.1 555 = .ok (.aload_n 0, 1) := by decide +kernel
theorem dL_law_556 : decode mL_law.2.1 556 = .ok (.iload 4, 2) := by decide +kernel
theorem dL_law_558 : decode mL_law.2.1 558 = .ok (.iconst 1, 1) := by decide +kernel
theorem dL_law_559 : decode mL_law.2.1 559 = .ok (.iadd, 1) := by decide +kernel
theorem dL_law_560 : decode mL_law.2.1 560 = .ok (.iaload, 1) := by decide +kernel
theorem dL_law_561 : decode mL_law.2.1 561 = .ok (.invokevirtual 59, 3) := by decide +kernel
theorem dL_law_564 : decode mL_law.2.1 564 = .ok (.aload_n 2, 1) := by decide +kernel
theorem dL_law_565 : decode mL_law.2.1 565 = .ok (.aload_n 0, 1) := by decide +kernel
theorem dL_law_566 : decode mL_law.2.1 566 = .ok (.iload 4, 2) := by decide +kernel
theorem dL_law_568 : decode mL_law.2.1 568 = .ok (.iconst 1, 1) := by decide +kernel
theorem dL_law_569 : decode mL_law.2.1 569 = .ok (.iadd, 1) := by decide +kernel
theorem dL_law_570 : decode mL_law.2.1 570 = .ok (.iaload, 1) := by decide +kernel
theorem dL_law_571 : decode mL_law.2.1 571 = .ok (.invokevirtual 62, 3) := by decide +kernel
theorem dL_law_574 : decode mL_law.2.1 574 = .ok (.if_icmp .eq 2183, 3) := by decide +kernel
theorem dL_law_577 : decode mL_law.2.1 577 = .ok (.iconst 0, 1) := by decide +kernel
theorem dL_law_578 : decode mL_law.2.1 578 = .ok (.ireturn, 1) := by decide +kernel
theorem dL_law_579 : decode mL_law.2.1 579 = .ok (.aload_n 1, 1) := by decide +kernel
theorem dL_law_580 : decode mL_law.2.1 580 = .ok (.aload_n 0, 1) := by decide +kernel
theorem dL_law_581 : decode mL_law.2.1 581 = .ok (.iload 4, 2) := by decide +kernel
theorem dL_law_583 : decode mL_law.2.1 583 = .ok (.iconst 1, 1) := by decide +kernel
theorem dL_law_584 : decode mL_law.2.1 584 = .ok (.iadd, 1) := by decide +kernel
theorem dL_law_585 : decode mL_law.2.1 585 = .ok (.iaload, 1) := by decide +kernel
theorem dL_law_586 : decode mL_law.2.1 586 = .ok (.aload_n 0, 1) := by decide +kernel
theorem dL_law_587 : decode mL_law.2.1 587 = .ok (.iload 4, 2) := by decide +kernel
theorem dL_law_589 : decode mL_law.2.1 589 = .ok (.iconst 2, 1) := by decide +kernel
theorem dL_law_590 : decode mL_law.2.1 590 = .ok (.iadd, 1) := by decide +kernel
theorem dL_law_591 : decode mL_law.2.1 591 = .ok (.iaload, 1) := by decide +kernel
theorem dL_law_592 : decode mL_law.2.1 592 = .ok (.invokevirtual 63, 3) := by decide +kernel
theorem dL_law_595 : decode mL_law.2.1 595 = .ok (.aload_n 2, 1) := by decide +kernel
theorem dL_law_596 : decode mL_law.2.1 596 = .ok (.aload_n 0, 1) := by decide +kernel
theorem dL_law_597 : decode mL_law.2.1 597 = .ok (.iload 4, 2) := by decide +kernel
theorem dL_law_599 : decode mL_law.2.1 599 = .ok (.iconst 1, 1) := by decide +kernel
theorem dL_law_600 : decode mL_law.2.1 600 = .ok (.iadd, 1) := by decide +kernel
theorem dL_law_601 : decode mL_law.2.1 601 = .ok (.iaload, 1) := by decide +kernel
theorem dL_law_602 : decode mL_law.2.1 602 = .ok (.aload_n 0, 1) := by decide +kernel
theorem dL_law_603 : decode mL_law.2.1 603 = .ok (.iload 4, 2) := by decide +kernel
theorem dL_law_605 : decode mL_law.2.1 605 = .ok (.iconst 2, 1) := by decide +kernel
theorem dL_law_606 : decode mL_law.2.1 606 = .ok (.iadd, 1) := by decide +kernel
theorem dL_law_607 : decode mL_law.2.1 607 = .ok (.iaload, 1) := by decide +kernel
theorem dL_law_608 : decode mL_law.2.1 608 = .ok (.invokevirtual 66, 3) := by decide +kernel
theorem dL_law_611 : decode mL_law.2.1 611 = .ok (.if_icmp .eq 2146, 3) := by decide +kernel
theorem dL_law_614 : decode mL_law.2.1 614 = .ok (.iconst 0, 1) := by decide +kernel
theorem dL_law_615 : decode mL_law.2.1 615 = .ok (.ireturn, 1) := by decide +kernel
theorem dL_law_616 : decode mL_law.2.1 616 = .ok (.aload_n 1, 1) := by decide +kernel
theorem dL_law_617 : decode mL_law.2.1 617 = .ok (.aload_n 0, 1) := by decide +kernel
theorem dL_law_618 : decode mL_law.2.1 618 = .ok (.iload 4, 2) := by decide +kernel
theorem dL_law_620 : decode mL_law.2.1 620 = .ok (.iconst 1, 1) := by decide +kernel
theorem dL_law_621 : decode mL_law.2.1 621 = .ok (.iadd, 1) := by decide +kernel
theorem dL_law_622 : decode mL_law.2.1 622 = .ok (.iaload, 1) := by decide +kernel
theorem dL_law_623 : decode mL_law.2.1 623 = .ok (.invokevirtual 67, 3) := by decide +kernel
theorem dL_law_626 : decode mL_law.2.1 626 = .ok (.aload_n 2, 1) := by decide +kernel
theorem dL_law_627 : decode mL_law.2.1 627 = .ok (.aload_n 0, 1) := by decide +kernel
theorem dL_law_628 : decode mL_law.2.1 628 = .ok (.iload 4, 2) := by decide +kernel
theorem dL_law_630 : decode mL_law.2.1 630 = .ok (.iconst 1, 1) := by decide +kernel
theorem dL_law_631 : decode mL_law.2.1 631 = .ok (.iadd, 1) := by decide +kernel
theorem dL_law_632 : decode mL_law.2.1 632 = .ok (.iaload, 1) := by decide +kernel
theorem dL_law_633 : decode mL_law.2.1 633 = .ok (.invokevirtual 70, 3) := by decide +kernel
theorem dL_law_636 : decode mL_law.2.1 636 = .ok (.if_icmp .eq 2121, 3) := by decide +kernel
theorem dL_law_639 : decode mL_law.2.1 639 = .ok (.iconst 0, 1) := by decide +kernel
theorem dL_law_640 : decode mL_law.2.1 640 = .ok (.ireturn, 1) := by decide +kernel
theorem dL_law_641 : decode mL_law.2.1 641 = .ok (.aload_n 1, 1) := by decide +kernel
theorem dL_law_642 : decode mL_law.2.1 642 = .ok (.aload_n 0, 1) := by decide +kernel
theorem dL_law_643 : decode mL_law.2.1 643 = .ok (.iload 4, 2) := by decide +kernel
theorem dL_law_645 : decode mL_law.2.1 645 = .ok (.iconst 1, 1) := by decide +kernel
theorem dL_law_646 : decode mL_law.2.1 646 = .ok (.iadd, 1) := by decide +kernel
theorem dL_law_647 : decode mL_law.2.1 647 = .ok (.iaload, 1) := by decide +kernel
theorem dL_law_648 : decode mL_law.2.1 648 = .ok (.aload_n 0, 1) := by decide +kernel
theorem dL_law_649 : decode mL_law.2.1 649 = .ok (.iload 4, 2) := by decide +kernel
theorem dL_law_651 : decode mL_law.2.1 651 = .ok (.iconst 2, 1) := by decide +kernel
theorem dL_law_652 : decode mL_law.2.1 652 = .ok (.iadd, 1) := by decide +kernel
theorem dL_law_653 : decode mL_law.2.1 653 = .ok (.iaload, 1) := by decide +kernel
theorem dL_law_654 : decode mL_law.2.1 654 = .ok (.invokevirtual 71, 3) := by decide +kernel
theorem dL_law_657 : decode mL_law.2.1 657 = .ok (.aload_n 2, 1) := by decide +kernel
theorem dL_law_658 : decode mL_law.2.1 658 = .ok (.aload_n 0, 1) := by decide +kernel
theorem dL_law_659 : decode mL_law.2.1 659 = .ok (.iload 4, 2) := by decide +kernel
theorem dL_law_661 : decode mL_law.2.1 661 = .ok (.iconst 1, 1) := by decide +kernel
theorem dL_law_662 : decode mL_law.2.1 662 = .ok (.iadd, 1) := by decide +kernel
theorem dL_law_663 : decode mL_law.2.1 663 = .ok (.iaload, 1) := by decide +kernel
theorem dL_law_664 : decode mL_law.2.1 664 = .ok (.aload_n 0, 1) := by decide +kernel
theorem dL_law_665 : decode mL_law.2.1 665 = .ok (.iload 4, 2) := by decide +kernel
theorem dL_law_667 : decode mL_law.2.1 667 = .ok (.iconst 2, 1) := by decide +kernel
theorem dL_law_668 : decode mL_law.2.1 668 = .ok (.iadd, 1) := by decide +kernel
theorem dL_law_669 : decode mL_law.2.1 669 = .ok (.iaload, 1) := by decide +kernel
theorem dL_law_670 : decode mL_law.2.1 670 = .ok (.invokevirtual 74, 3) := by decide +kernel
theorem dL_law_673 : decode mL_law.2.1 673 = .ok (.if_icmp .eq 2084, 3) := by decide +kernel
theorem dL_law_676 : decode mL_law.2.1 676 = .ok (.iconst 0, 1) := by decide +kernel
theorem dL_law_677 : decode mL_law.2.1 677 = .ok (.ireturn, 1) := by decide +kernel
theorem dL_law_678 : decode mL_law.2.1 678 = .ok (.aload_n 1, 1) := by decide +kernel
theorem dL_law_679 : decode mL_law.2.1 679 = .ok (.aload_n 0, 1) := by decide +kernel
theorem dL_law_680 : decode mL_law.2.1 680 = .ok (.iload 4, 2) := by decide +kernel
theorem dL_law_682 : decode mL_law.2.1 682 = .ok (.iconst 1, 1) := by decide +kernel
theorem dL_law_683 : decode mL_law.2.1 683 = .ok (.iadd, 1) := by decide +kernel
theorem dL_law_684 : decode mL_law.2.1 684 = .ok (.iaload, 1) := by decide +kernel
theorem dL_law_685 : decode mL_law.2.1 685 = .ok (.aload_n 0, 1) := by decide +kernel
theorem dL_law_686 : decode mL_law.2.1 686 = .ok (.iload 4, 2) := by decide +kernel
theorem dL_law_688 : decode mL_law.2.1 688 = .ok (.iconst 2, 1) := by decide +kernel
theorem dL_law_689 : decode mL_law.2.1 689 = .ok (.iadd, 1) := by decide +kernel
theorem dL_law_690 : decode mL_law.2.1 690 = .ok (.iaload, 1) := by decide +kernel
theorem dL_law_691 : decode mL_law.2.1 691 = .ok (.invokevirtual 75, 3) := by decide +kernel
theorem dL_law_694 : decode mL_law.2.1 694 = .ok (.aload_n 2, 1) := by decide +kernel
theorem dL_law_695 : decode mL_law.2.1 695 = .ok (.aload_n 0, 1) := by decide +kernel
theorem dL_law_696 : decode mL_law.2.1 696 = .ok (.iload 4, 2) := by decide +kernel
theorem dL_law_698 : decode mL_law.2.1 698 = .ok (.iconst 1, 1) := by decide +kernel
theorem dL_law_699 : decode mL_law.2.1 699 = .ok (.iadd, 1) := by decide +kernel
theorem dL_law_700 : decode mL_law.2.1 700 = .ok (.iaload, 1) := by decide +kernel
theorem dL_law_701 : decode mL_law.2.1 701 = .ok (.aload_n 0, 1) := by decide +kernel
theorem dL_law_702 : decode mL_law.2.1 702 = .ok (.iload 4, 2) := by decide +kernel
theorem dL_law_704 : decode mL_law.2.1 704 = .ok (.iconst 2, 1) := by decide +kernel
theorem dL_law_705 : decode mL_law.2.1 705 = .ok (.iadd, 1) := by decide +kernel
theorem dL_law_706 : decode mL_law.2.1 706 = .ok (.iaload, 1) := by decide +kernel
theorem dL_law_707 : decode mL_law.2.1 707 = .ok (.invokevirtual 78, 3) := by decide +kernel
theorem dL_law_710 : decode mL_law.2.1 710 = .ok (.if_icmp .eq 2047, 3) := by decide +kernel
theorem dL_law_713 : decode mL_law.2.1 713 = .ok (.iconst 0, 1) := by decide +kernel
theorem dL_law_714 : decode mL_law.2.1 714 = .ok (.ireturn, 1) := by decide +kernel
theorem dL_law_715 : decode mL_law.2.1 715 = .ok (.aload_n 1, 1) := by decide +kernel
theorem dL_law_716 : decode mL_law.2.1 716 = .ok (.aload_n 0, 1) := by decide +kernel
theorem dL_law_717 : decode mL_law.2.1 717 = .ok (.iload 4, 2) := by decide +kernel
theorem dL_law_719 : decode mL_law.2.1 719 = .ok (.iconst 1, 1) := by decide +kernel
theorem dL_law_720 : decode mL_law.2.1 720 = .ok (.iadd, 1) := by decide +kernel
theorem dL_law_721 : decode mL_law.2.1 721 = .ok (.iaload, 1) := by decide +kernel
theorem dL_law_722 : decode mL_law.2.1 722 = .ok (.aload_n 0, 1) := by decide +kernel
theorem dL_law_723 : decode mL_law.2.1 723 = .ok (.iload 4, 2) := by decide +kernel
theorem dL_law_725 : decode mL_law.2.1 725 = .ok (.iconst 2, 1) := by decide +kernel
theorem dL_law_726 : decode mL_law.2.1 726 = .ok (.iadd, 1) := by decide +kernel
theorem dL_law_727 : decode mL_law.2.1 727 = .ok (.iaload, 1) := by decide +kernel
theorem dL_law_728 : decode mL_law.2.1 728 = .ok (.invokevirtual 79, 3) := by decide +kernel
theorem dL_law_731 : decode mL_law.2.1 731 = .ok (.aload_n 2, 1) := by decide +kernel
theorem dL_law_732 : decode mL_law.2.1 732 = .ok (.aload_n 0, 1) := by decide +kernel
theorem dL_law_733 : decode mL_law.2.1 733 = .ok (.iload 4, 2) := by decide +kernel
theorem dL_law_735 : decode mL_law.2.1 735 = .ok (.iconst 1, 1) := by decide +kernel
theorem dL_law_736 : decode mL_law.2.1 736 = .ok (.iadd, 1) := by decide +kernel
theorem dL_law_737 : decode mL_law.2.1 737 = .ok (.iaload, 1) := by decide +kernel
theorem dL_law_738 : decode mL_law.2.1 738 = .ok (.aload_n 0, 1) := by decide +kernel
theorem dL_law_739 : decode mL_law.2.1 739 = .ok (.iload 4, 2) := by decide +kernel
theorem dL_law_741 : decode mL_law.2.1 741 = .ok (.iconst 2, 1) := by decide +kernel
theorem dL_law_742 : decode mL_law.2.1 742 = .ok (.iadd, 1) := by decide +kernel
theorem dL_law_743 : decode mL_law.2.1 743 = .ok (.iaload, 1) := by decide +kernel
theorem dL_law_744 : decode mL_law.2.1 744 = .ok (.invokevirtual 82, 3) := by decide +kernel
theorem dL_law_747 : decode mL_law.2.1 747 = .ok (.if_icmp .eq 2010, 3) := by decide +kernel
theorem dL_law_750 : decode mL_law.2.1 750 = .ok (.iconst 0, 1) := by decide +kernel
theorem dL_law_751 : decode mL_law.2.1 751 = .ok (.ireturn, 1) := by decide +kernel
theorem dL_law_752 : decode mL_law.2.1 752 = .ok (.aload_n 1, 1) := by decide +kernel
theorem dL_law_753 : decode mL_law.2.1 753 = .ok (.aload_n 0, 1) := by decide +kernel
theorem dL_law_754 : decode mL_law.2.1 754 = .ok (.iload 4, 2) := by decide +kernel
theorem dL_law_756 : decode mL_law.2.1 756 = .ok (.iconst 1, 1) := by decide +kernel
theorem dL_law_757 : decode mL_law.2.1 757 = .ok (.iadd, 1) := by decide +kernel
theorem dL_law_758 : decode mL_law.2.1 758 = .ok (.iaload, 1) := by decide +kernel
theorem dL_law_759 : decode mL_law.2.1 759 = .ok (.invokevirtual 83, 3) := by decide +kernel
theorem dL_law_762 : decode mL_law.2.1 762 = .ok (.aload_n 2, 1) := by decide +kernel
theorem dL_law_763 : decode mL_law.2.1 763 = .ok (.aload_n 0, 1) := by decide +kernel
theorem dL_law_764 : decode mL_law.2.1 764 = .ok (.iload 4, 2) := by decide +kernel
theorem dL_law_766 : decode mL_law.2.1 766 = .ok (.iconst 1, 1) := by decide +kernel
theorem dL_law_767 : decode mL_law.2.1 767 = .ok (.iadd, 1) := by decide +kernel
theorem dL_law_768 : decode mL_law.2.1 768 = .ok (.iaload, 1) := by decide +kernel
theorem dL_law_769 : decode mL_law.2.1 769 = .ok (.invokevirtual 86, 3) := by decide +kernel
theorem dL_law_772 : decode mL_law.2.1 772 = .ok (.if_icmp .eq 1985, 3) := by decide +kernel
theorem dL_law_775 : decode mL_law.2.1 775 = .ok (.iconst 0, 1) := by decide +kernel
theorem dL_law_776 : decode mL_law.2.1 776 = .ok (.ireturn, 1) := by decide +kernel
theorem dL_law_777 : decode mL_law.2.1 777 = .ok (.aload_n 1, 1) := by decide +kernel
theorem dL_law_778 : decode mL_law.2.1 778 = .ok (.aload_n 0, 1) := by decide +kernel
theorem dL_law_779 : decode mL_law.2.1 779 = .ok (.iload 4, 2) := by decide +kernel
theorem dL_law_781 : decode mL_law.2.1 781 = .ok (.iconst 1, 1) := by decide +kernel
theorem dL_law_782 : decode mL_law.2.1 782 = .ok (.iadd, 1) := by decide +kernel
theorem dL_law_783 : decode mL_law.2.1 783 = .ok (.iaload, 1) := by decide +kernel
theorem dL_law_784 : decode mL_law.2.1 784 = .ok (.invokevirtual 87, 3) := by decide +kernel
theorem dL_law_787 : decode mL_law.2.1 787 = .ok (.aload_n 2, 1) := by decide +kernel
theorem dL_law_788 : decode mL_law.2.1 788 = .ok (.aload_n 0, 1) := by decide +kernel
theorem dL_law_789 : decode mL_law.2.1 789 = .ok (.iload 4, 2) := by decide +kernel
theorem dL_law_791 : decode mL_law.2.1 791 = .ok (.iconst 1, 1) := by decide +kernel
theorem dL_law_792 : decode mL_law.2.1 792 = .ok (.iadd, 1) := by decide +kernel
theorem dL_law_793 : decode mL_law.2.1 793 = .ok (.iaload, 1) := by decide +kernel
theorem dL_law_794 : decode mL_law.2.1 794 = .ok (.invokevirtual 90, 3) := by decide +kernel
theorem dL_law_797 : decode mL_law.2.1 797 = .ok (.if_icmp .eq 1960, 3) := by decide +kernel
theorem dL_law_800 : decode mL_law.2.1 800 = .ok (.iconst 0, 1) := by decide +kernel
theorem dL_law_801 : decode mL_law.2.1 801 = .ok (.ireturn, 1) := by decide +kernel
theorem dL_law_802 : decode mL_law.2.1 802 = .ok (.aload_n 1, 1) := by decide +kernel
theorem dL_law_803 : decode mL_law.2.1 803 = .ok (.aload_n 0, 1) := by decide +kernel
theorem dL_law_804 : decode mL_law.2.1 804 = .ok (.iload 4, 2) := by decide +kernel
theorem dL_law_806 : decode mL_law.2.1 806 = .ok (.iconst 1, 1) := by decide +kernel
theorem dL_law_807 : decode mL_law.2.1 807 = .ok (.iadd, 1) := by decide +kernel
theorem dL_law_808 : decode mL_law.2.1 808 = .ok (.iaload, 1) := by decide +kernel
theorem dL_law_809 : decode mL_law.2.1 809 = .ok (.invokevirtual 91, 3) := by decide +kernel
theorem dL_law_812 : decode mL_law.2.1 812 = .ok (.aload_n 2, 1) := by decide +kernel
theorem dL_law_813 : decode mL_law.2.1 813 = .ok (.aload_n 0, 1) := by decide +kernel
theorem dL_law_814 : decode mL_law.2.1 814 = .ok (.iload 4, 2) := by decide +kernel
theorem dL_law_816 : decode mL_law.2.1 816 = .ok (.iconst 1, 1) := by decide +kernel
theorem dL_law_817 : decode mL_law.2.1 817 = .ok (.iadd, 1) := by decide +kernel
theorem dL_law_818 : decode mL_law.2.1 818 = .ok (.iaload, 1) := by decide +kernel
theorem dL_law_819 : decode mL_law.2.1 819 = .ok (.invokevirtual 94, 3) := by decide +kernel
theorem dL_law_822 : decode mL_law.2.1 822 = .ok (.if_icmp .eq 1935, 3) := by decide +kernel
theorem dL_law_825 : decode mL_law.2.1 825 = .ok (.iconst 0, 1) := by decide +kernel
theorem dL_law_826 : decode mL_law.2.1 826 = .ok (.ireturn, 1) := by decide +kernel
theorem dL_law_827 : decode mL_law.2.1 827 = .ok (.aload_n 1, 1) := by decide +kernel
theorem dL_law_828 : decode mL_law.2.1 828 = .ok (.invokevirtual 95, 3) := by decide +kernel
theorem dL_law_831 : decode mL_law.2.1 831 = .ok (.aload_n 2, 1) := by decide +kernel
theorem dL_law_832 : decode mL_law.2.1 832 = .ok (.invokevirtual 98, 3) := by decide +kernel
theorem dL_law_835 : decode mL_law.2.1 835 = .ok (.if_icmp .eq 1922, 3) := by decide +kernel
theorem dL_law_838 : decode mL_law.2.1 838 = .ok (.iconst 0, 1) := by decide +kernel
theorem dL_law_839 : decode mL_law.2.1 839 = .ok (.ireturn, 1) := by decide +kernel
theorem dL_law_840 : decode mL_law.2.1 840 = .ok (.aload_n 1, 1) := by decide +kernel
theorem dL_law_841 : decode mL_law.2.1 841 = .ok (.aload_n 0, 1) := by decide +kernel
theorem dL_law_842 : decode mL_law.2.1 842 = .ok (.iload 4, 2) := by decide +kernel
theorem dL_law_844 : decode mL_law.2.1 844 = .ok (.iconst 1, 1) := by decide +kernel
theorem dL_law_845 : decode mL_law.2.1 845 = .ok (.iadd, 1) := by decide +kernel
theorem dL_law_846 : decode mL_law.2.1 846 = .ok (.iaload, 1) := by decide +kernel
theorem dL_law_847 : decode mL_law.2.1 847 = .ok (.invokevirtual 99, 3) := by decide +kernel
theorem dL_law_850 : decode mL_law.2.1 850 = .ok (.aload_n 2, 1) := by decide +kernel
theorem dL_law_851 : decode mL_law.2.1 851 = .ok (.aload_n 0, 1) := by decide +kernel
theorem dL_law_852 : decode mL_law.2.1 852 = .ok (.iload 4, 2) := by decide +kernel
theorem dL_law_854 : decode mL_law.2.1 854 = .ok (.iconst 1, 1) := by decide +kernel
theorem dL_law_855 : decode mL_law.2.1 855 = .ok (.iadd, 1) := by decide +kernel
theorem dL_law_856 : decode mL_law.2.1 856 = .ok (.iaload, 1) := by decide +kernel
theorem dL_law_857 : decode mL_law.2.1 857 = .ok (.invokevirtual 102, 3) := by decide +kernel
theorem dL_law_860 : decode mL_law.2.1 860 = .ok (.if_icmp .eq 1897, 3) := by decide +kernel
theorem dL_law_863 : decode mL_law.2.1 863 = .ok (.iconst 0, 1) := by decide +kernel
theorem dL_law_864 : decode mL_law.2.1 864 = .ok (.ireturn, 1) := by decide +kernel
theorem dL_law_865 : decode mL_law.2.1 865 = .ok (.aload_n 1, 1) := by decide +kernel
theorem dL_law_866 : decode mL_law.2.1 866 = .ok (.aload_n 0, 1) := by decide +kernel
theorem dL_law_867 : decode mL_law.2.1 867 = .ok (.iload 4, 2) := by decide +kernel
theorem dL_law_869 : decode mL_law.2.1 869 = .ok (.iconst 1, 1) := by decide +kernel
theorem dL_law_870 : decode mL_law.2.1 870 = .ok (.iadd, 1) := by decide +kernel
theorem dL_law_871 : decode mL_law.2.1 871 = .ok (.iaload, 1) := by decide +kernel
theorem dL_law_872 : decode mL_law.2.1 872 = .ok (.aload_n 0, 1) := by decide +kernel
theorem dL_law_873 : decode mL_law.2.1 873 = .ok (.iload 4, 2) := by decide +kernel
theorem dL_law_875 : decode mL_law.2.1 875 = .ok (.iconst 2, 1) := by decide +kernel
theorem dL_law_876 : decode mL_law.2.1 876 = .ok (.iadd, 1) := by decide +kernel
theorem dL_law_877 : decode mL_law.2.1 877 = .ok (.iaload, 1) := by decide +kernel
theorem dL_law_878 : decode mL_law.2.1 878 = .ok (.aload_n 0, 1) := by decide +kernel
theorem dL_law_879 : decode mL_law.2.1 879 = .ok (.iload 4, 2) := by decide +kernel
theorem dL_law_881 : decode mL_law.2.1 881 = .ok (.iconst 3, 1) := by decide +kernel
theorem dL_law_882 : decode mL_law.2.1 882 = .ok (.iadd, 1) := by decide +kernel
theorem dL_law_883 : decode mL_law.2.1 883 = .ok (.iaload, 1) := by decide +kernel
theorem dL_law_884 : decode mL_law.2.1 884 = .ok (.i2l, 1) := by decide +kernel
theorem dL_law_885 : decode mL_law.2.1 885 = .ok (.bipush 32, 2) := by decide +kernel
theorem dL_law_887 : decode mL_law.2.1 887 = .ok (.lshl, 1) := by decide +kernel
theorem dL_law_888 : decode mL_law.2.1 888 = .ok (.aload_n 0, 1) := by decide +kernel
theorem dL_law_889 : decode mL_law.2.1 889 = .ok (.iload 4, 2) := by decide +kernel
theorem dL_law_891 : decode mL_law.2.1 891 = .ok (.iconst 4, 1) := by decide +kernel
theorem dL_law_892 : decode mL_law.2.1 892 = .ok (.iadd, 1) := by decide +kernel
theorem dL_law_893 : decode mL_law.2.1 893 = .ok (.iaload, 1) := by decide +kernel
theorem dL_law_894 : decode mL_law.2.1 894 = .ok (.i2l, 1) := by decide +kernel
theorem dL_law_895 : decode mL_law.2.1 895 = .ok (.ldc2_w 52, 3) := by decide +kernel
theorem dL_law_898 : decode mL_law.2.1 898 = .ok (.land, 1) := by decide +kernel
theorem dL_law_899 : decode mL_law.2.1 899 = .ok (.lor, 1) := by decide +kernel
theorem dL_law_900 : decode mL_law.2.1 900 = .ok (.aload_n 0, 1) := by decide +kernel
theorem dL_law_901 : decode mL_law.2.1 901 = .ok (.iload 4, 2) := by decide +kernel
theorem dL_law_903 : decode mL_law.2.1 903 = .ok (.iconst 5, 1) := by decide +kernel
theorem dL_law_904 : decode mL_law.2.1 904 = .ok (.iadd, 1) := by decide +kernel
theorem dL_law_905 : decode mL_law.2.1 905 = .ok (.iaload, 1) := by decide +kernel
theorem dL_law_906 : decode mL_law.2.1 906 = .ok (.aload_n 0, 1) := by decide +kernel
theorem dL_law_907 : decode mL_law.2.1 907 = .ok (.iload 4, 2) := by decide +kernel
theorem dL_law_909 : decode mL_law.2.1 909 = .ok (.bipush 6, 2) := by decide +kernel
theorem dL_law_911 : decode mL_law.2.1 911 = .ok (.iadd, 1) := by decide +kernel
theorem dL_law_912 : decode mL_law.2.1 912 = .ok (.iaload, 1) := by decide +kernel
theorem dL_law_913 : decode mL_law.2.1 913 = .ok (.invokevirtual 103, 3) := by decide +kernel
theorem dL_law_916 : decode mL_law.2.1 916 = .ok (.aload_n 2, 1) := by decide +kernel
theorem dL_law_917 : decode mL_law.2.1 917 = .ok (.aload_n 0, 1) := by decide +kernel
theorem dL_law_918 : decode mL_law.2.1 918 = .ok (.iload 4, 2) := by decide +kernel
theorem dL_law_920 : decode mL_law.2.1 920 = .ok (.iconst 1, 1) := by decide +kernel
theorem dL_law_921 : decode mL_law.2.1 921 = .ok (.iadd, 1) := by decide +kernel
theorem dL_law_922 : decode mL_law.2.1 922 = .ok (.iaload, 1) := by decide +kernel
theorem dL_law_923 : decode mL_law.2.1 923 = .ok (.aload_n 0, 1) := by decide +kernel
theorem dL_law_924 : decode mL_law.2.1 924 = .ok (.iload 4, 2) := by decide +kernel
theorem dL_law_926 : decode mL_law.2.1 926 = .ok (.iconst 2, 1) := by decide +kernel
theorem dL_law_927 : decode mL_law.2.1 927 = .ok (.iadd, 1) := by decide +kernel
theorem dL_law_928 : decode mL_law.2.1 928 = .ok (.iaload, 1) := by decide +kernel
theorem dL_law_929 : decode mL_law.2.1 929 = .ok (.aload_n 0, 1) := by decide +kernel
theorem dL_law_930 : decode mL_law.2.1 930 = .ok (.iload 4, 2) := by decide +kernel
theorem dL_law_932 : decode mL_law.2.1 932 = .ok (.iconst 3, 1) := by decide +kernel
theorem dL_law_933 : decode mL_law.2.1 933 = .ok (.iadd, 1) := by decide +kernel
theorem dL_law_934 : decode mL_law.2.1 934 = .ok (.iaload, 1) := by decide +kernel
theorem dL_law_935 : decode mL_law.2.1 935 = .ok (.i2l, 1) := by decide +kernel
theorem dL_law_936 : decode mL_law.2.1 936 = .ok (.bipush 32, 2) := by decide +kernel
theorem dL_law_938 : decode mL_law.2.1 938 = .ok (.lshl, 1) := by decide +kernel
theorem dL_law_939 : decode mL_law.2.1 939 = .ok (.aload_n 0, 1) := by decide +kernel
theorem dL_law_940 : decode mL_law.2.1 940 = .ok (.iload 4, 2) := by decide +kernel
theorem dL_law_942 : decode mL_law.2.1 942 = .ok (.iconst 4, 1) := by decide +kernel
theorem dL_law_943 : decode mL_law.2.1 943 = .ok (.iadd, 1) := by decide +kernel
theorem dL_law_944 : decode mL_law.2.1 944 = .ok (.iaload, 1) := by decide +kernel
theorem dL_law_945 : decode mL_law.2.1 945 = .ok (.i2l, 1) := by decide +kernel
theorem dL_law_946 : decode mL_law.2.1 946 = .ok (.ldc2_w 52, 3) := by decide +kernel
theorem dL_law_949 : decode mL_law.2.1 949 = .ok (.land, 1) := by decide +kernel
theorem dL_law_950 : decode mL_law.2.1 950 = .ok (.lor, 1) := by decide +kernel
theorem dL_law_951 : decode mL_law.2.1 951 = .ok (.aload_n 0, 1) := by decide +kernel
theorem dL_law_952 : decode mL_law.2.1 952 = .ok (.iload 4, 2) := by decide +kernel
theorem dL_law_954 : decode mL_law.2.1 954 = .ok (.iconst 5, 1) := by decide +kernel
theorem dL_law_955 : decode mL_law.2.1 955 = .ok (.iadd, 1) := by decide +kernel
theorem dL_law_956 : decode mL_law.2.1 956 = .ok (.iaload, 1) := by decide +kernel
theorem dL_law_957 : decode mL_law.2.1 957 = .ok (.aload_n 0, 1) := by decide +kernel
theorem dL_law_958 : decode mL_law.2.1 958 = .ok (.iload 4, 2) := by decide +kernel
theorem dL_law_960 : decode mL_law.2.1 960 = .ok (.bipush 6, 2) := by decide +kernel
theorem dL_law_962 : decode mL_law.2.1 962 = .ok (.iadd, 1) := by decide +kernel
theorem dL_law_963 : decode mL_law.2.1 963 = .ok (.iaload, 1) := by decide +kernel
theorem dL_law_964 : decode mL_law.2.1 964 = .ok (.invokevirtual 107, 3) := by decide +kernel
theorem dL_law_967 : decode mL_law.2.1 967 = .ok (.if_icmp .eq 1790, 3) := by decide +kernel
theorem dL_law_970 : decode mL_law.2.1 970 = .ok (.iconst 0, 1) := by decide +kernel
theorem dL_law_971 : decode mL_law.2.1 971 = .ok (.ireturn, 1) := by decide +kernel
theorem dL_law_972 : decode mL_law.2.1 972 = .ok (.aload_n 1, 1) := by decide +kernel
theorem dL_law_973 : decode mL_law.2.1 973 = .ok (.aload_n 0, 1) := by decide +kernel
theorem dL_law_974 : decode mL_law.2.1 974 = .ok (.iload 4, 2) := by decide +kernel
theorem dL_law_976 : decode mL_law.2.1 976 = .ok (.iconst 1, 1) := by decide +kernel
theorem dL_law_977 : decode mL_law.2.1 977 = .ok (.iadd, 1) := by decide +kernel
theorem dL_law_978 : decode mL_law.2.1 978 = .ok (.iaload, 1) := by decide +kernel
theorem dL_law_979 : decode mL_law.2.1 979 = .ok (.aload_n 0, 1) := by decide +kernel
theorem dL_law_980 : decode mL_law.2.1 980 = .ok (.iload 4, 2) := by decide +kernel
theorem dL_law_982 : decode mL_law.2.1 982 = .ok (.iconst 2, 1) := by decide +kernel
theorem dL_law_983 : decode mL_law.2.1 983 = .ok (.iadd, 1) := by decide +kernel
theorem dL_law_984 : decode mL_law.2.1 984 = .ok (.iaload, 1) := by decide +kernel
theorem dL_law_985 : decode mL_law.2.1 985 = .ok (.aload_n 0, 1) := by decide +kernel
theorem dL_law_986 : decode mL_law.2.1 986 = .ok (.iload 4, 2) := by decide +kernel
theorem dL_law_988 : decode mL_law.2.1 988 = .ok (.iconst 3, 1) := by decide +kernel
theorem dL_law_989 : decode mL_law.2.1 989 = .ok (.iadd, 1) := by decide +kernel
theorem dL_law_990 : decode mL_law.2.1 990 = .ok (.iaload, 1) := by decide +kernel
theorem dL_law_991 : decode mL_law.2.1 991 = .ok (.aload_n 0, 1) := by decide +kernel
theorem dL_law_992 : decode mL_law.2.1 992 = .ok (.iload 4, 2) := by decide +kernel
theorem dL_law_994 : decode mL_law.2.1 994 = .ok (.iconst 4, 1) := by decide +kernel
theorem dL_law_995 : decode mL_law.2.1 995 = .ok (.iadd, 1) := by decide +kernel
theorem dL_law_996 : decode mL_law.2.1 996 = .ok (.iaload, 1) := by decide +kernel
theorem dL_law_997 : decode mL_law.2.1 997 = .ok (.aload_n 0, 1) := by decide +kernel
theorem dL_law_998 : decode mL_law.2.1 998 = .ok (.iload 4, 2) := by decide +kernel
theorem dL_law_1000 : decode mL_law.2.1 1000 = .ok (.iconst 5, 1) := by decide +kernel
theorem dL_law_1001 : decode mL_law.2.1 1001 = .ok (.iadd, 1) := by decide +kernel
theorem dL_law_1002 : decode mL_law.2.1 1002 = .ok (.iaload, 1) := by decide +kernel
theorem dL_law_1003 : decode mL_law.2.1 1003 = .ok (.i2l, 1) := by decide +kernel
theorem dL_law_1004 : decode mL_law.2.1 1004 = .ok (.bipush 32, 2) := by decide +kernel
theorem dL_law_1006 : decode mL_law.2.1 1006 = .ok (.lshl, 1) := by decide +kernel
theorem dL_law_1007 : decode mL_law.2.1 1007 = .ok (.aload_n 0, 1) := by decide +kernel
theorem dL_law_1008 : decode mL_law.2.1 1008 = .ok (.iload 4, 2) := by decide +kernel
theorem dL_law_1010 : decode mL_law.2.1 1010 = .ok (.bipush 6, 2) := by decide +kernel
theorem dL_law_1012 : decode mL_law.2.1 1012 = .ok (.iadd, 1) := by decide +kernel
theorem dL_law_1013 : decode mL_law.2.1 1013 = .ok (.iaload, 1) := by decide +kernel
theorem dL_law_1014 : decode mL_law.2.1 1014 = .ok (.i2l, 1) := by decide +kernel
theorem dL_law_1015 : decode mL_law.2.1 1015 = .ok (.ldc2_w 52, 3) := by decide +kernel
theorem dL_law_1018 : decode mL_law.2.1 1018 = .ok (.land, 1) := by decide +kernel
theorem dL_law_1019 : decode mL_law.2.1 1019 = .ok (.lor, 1) := by decide +kernel
theorem dL_law_1020 : decode mL_law.2.1 1020 = .ok (.aload_n 0, 1) := by decide +kernel
theorem dL_law_1021 : decode mL_law.2.1 1021 = .ok (.iload 4, 2) := by decide +kernel
theorem dL_law_1023 : decode mL_law.2.1 1023 = .ok (.bipush 7, 2) := by decide +kernel
theorem dL_law_1025 : decode mL_law.2.1 1025 = .ok (.iadd, 1) := by decide +kernel
theorem dL_law_1026 : decode mL_law.2.1 1026 = .ok (.iaload, 1) := by decide +kernel
theorem dL_law_1027 : decode mL_law.2.1 1027 = .ok (.invokevirtual 108, 3) := by decide +kernel
theorem dL_law_1030 : decode mL_law.2.1 1030 = .ok (.aload_n 2, 1) := by decide +kernel
theorem dL_law_1031 : decode mL_law.2.1 1031 = .ok (.aload_n 0, 1) := by decide +kernel
theorem dL_law_1032 : decode mL_law.2.1 1032 = .ok (.iload 4, 2) := by decide +kernel
theorem dL_law_1034 : decode mL_law.2.1 1034 = .ok (.iconst 1, 1) := by decide +kernel
theorem dL_law_1035 : decode mL_law.2.1 1035 = .ok (.iadd, 1) := by decide +kernel
theorem dL_law_1036 : decode mL_law.2.1 1036 = .ok (.iaload, 1) := by decide +kernel
theorem dL_law_1037 : decode mL_law.2.1 1037 = .ok (.aload_n 0, 1) := by decide +kernel
theorem dL_law_1038 : decode mL_law.2.1 1038 = .ok (.iload 4, 2) := by decide +kernel
theorem dL_law_1040 : decode mL_law.2.1 1040 = .ok (.iconst 2, 1) := by decide +kernel
theorem dL_law_1041 : decode mL_law.2.1 1041 = .ok (.iadd, 1) := by decide +kernel
theorem dL_law_1042 : decode mL_law.2.1 1042 = .ok (.iaload, 1) := by decide +kernel
theorem dL_law_1043 : decode mL_law.2.1 1043 = .ok (.aload_n 0, 1) := by decide +kernel
theorem dL_law_1044 : decode mL_law.2.1 1044 = .ok (.iload 4, 2) := by decide +kernel
theorem dL_law_1046 : decode mL_law.2.1 1046 = .ok (.iconst 3, 1) := by decide +kernel
theorem dL_law_1047 : decode mL_law.2.1 1047 = .ok (.iadd, 1) := by decide +kernel
theorem dL_law_1048 : decode mL_law.2.1 1048 = .ok (.iaload, 1) := by decide +kernel
theorem dL_law_1049 : decode mL_law.2.1 1049 = .ok (.aload_n 0, 1) := by decide +kernel
theorem dL_law_1050 : decode mL_law.2.1 1050 = .ok (.iload 4, 2) := by decide +kernel
theorem dL_law_1052 : decode mL_law.2.1 1052 = .ok (.iconst 4, 1) := by decide +kernel
theorem dL_law_1053 : decode mL_law.2.1 1053 = .ok (.iadd, 1) := by decide +kernel
theorem dL_law_1054 : decode mL_law.2.1 1054 = .ok (.iaload, 1) := by decide +kernel
theorem dL_law_1055 : decode mL_law.2.1 1055 = .ok (.aload_n 0, 1) := by decide +kernel
theorem dL_law_1056 : decode mL_law.2.1 1056 = .ok (.iload 4, 2) := by decide +kernel
theorem dL_law_1058 : decode mL_law.2.1 1058 = .ok (.iconst 5, 1) := by decide +kernel
theorem dL_law_1059 : decode mL_law.2.1 1059 = .ok (.iadd, 1) := by decide +kernel
theorem dL_law_1060 : decode mL_law.2.1 1060 = .ok (.iaload, 1) := by decide +kernel
theorem dL_law_1061 : decode mL_law.2.1 1061 = .ok (.i2l, 1) := by decide +kernel
theorem dL_law_1062 : decode mL_law.2.1 1062 = .ok (.bipush 32, 2) := by decide +kernel
theorem dL_law_1064 : decode mL_law.2.1 1064 = .ok (.lshl, 1) := by decide +kernel
theorem dL_law_1065 : decode mL_law.2.1 1065 = .ok (.aload_n 0, 1) := by decide +kernel
theorem dL_law_1066 : decode mL_law.2.1 1066 = .ok (.iload 4, 2) := by decide +kernel
theorem dL_law_1068 : decode mL_law.2.1 1068 = .ok (.bipush 6, 2) := by decide +kernel
theorem dL_law_1070 : decode mL_law.2.1 1070 = .ok (.iadd, 1) := by decide +kernel
theorem dL_law_1071 : decode mL_law.2.1 1071 = .ok (.iaload, 1) := by decide +kernel
theorem dL_law_1072 : decode mL_law.2.1 1072 = .ok (.i2l, 1) := by decide +kernel
theorem dL_law_1073 : decode mL_law.2.1 1073 = .ok (.ldc2_w 52, 3) := by decide +kernel
theorem dL_law_1076 : decode mL_law.2.1 1076 = .ok (.land, 1) := by decide +kernel
theorem dL_law_1077 : decode mL_law.2.1 1077 = .ok (.lor, 1) := by decide +kernel
theorem dL_law_1078 : decode mL_law.2.1 1078 = .ok (.aload_n 0, 1) := by decide +kernel
theorem dL_law_1079 : decode mL_law.2.1 1079 = .ok (.iload 4, 2) := by decide +kernel
theorem dL_law_1081 : decode mL_law.2.1 1081 = .ok (.bipush 7, 2) := by decide +kernel
theorem dL_law_1083 : decode mL_law.2.1 1083 = .ok (.iadd, 1) := by decide +kernel
theorem dL_law_1084 : decode mL_law.2.1 1084 = .ok (.iaload, 1) := by decide +kernel
theorem dL_law_1085 : decode mL_law.2.1 1085 = .ok (.invokevirtual 112, 3) := by decide +kernel
theorem dL_law_1088 : decode mL_law.2.1 1088 = .ok (.if_icmp .eq 1669, 3) := by decide +kernel
theorem dL_law_1091 : decode mL_law.2.1 1091 = .ok (.iconst 0, 1) := by decide +kernel
theorem dL_law_1092 : decode mL_law.2.1 1092 = .ok (.ireturn, 1) := by decide +kernel
theorem dL_law_1093 : decode mL_law.2.1 1093 = .ok (.aload_n 1, 1) := by decide +kernel
theorem dL_law_1094 : decode mL_law.2.1 1094 = .ok (.invokevirtual 113, 3) := by decide +kernel
theorem dL_law_1097 : decode mL_law.2.1 1097 = .ok (.aload_n 2, 1) := by decide +kernel
theorem dL_law_1098 : decode mL_law.2.1 1098 = .ok (.invokevirtual 116, 3) := by decide +kernel
theorem dL_law_1101 : decode mL_law.2.1 1101 = .ok (.if_icmp .eq 1656, 3) := by decide +kernel
theorem dL_law_1104 : decode mL_law.2.1 1104 = .ok (.iconst 0, 1) := by decide +kernel
theorem dL_law_1105 : decode mL_law.2.1 1105 = .ok (.ireturn, 1) := by decide +kernel
theorem dL_law_1106 : decode mL_law.2.1 1106 = .ok (.aload_n 1, 1) := by decide +kernel
theorem dL_law_1107 : decode mL_law.2.1 1107 = .ok (.aload_n 0, 1) := by decide +kernel
theorem dL_law_1108 : decode mL_law.2.1 1108 = .ok (.iload 4, 2) := by decide +kernel
theorem dL_law_1110 : decode mL_law.2.1 1110 = .ok (.iconst 1, 1) := by decide +kernel
theorem dL_law_1111 : decode mL_law.2.1 1111 = .ok (.iadd, 1) := by decide +kernel
theorem dL_law_1112 : decode mL_law.2.1 1112 = .ok (.iaload, 1) := by decide +kernel
theorem dL_law_1113 : decode mL_law.2.1 1113 = .ok (.aload_n 0, 1) := by decide +kernel
theorem dL_law_1114 : decode mL_law.2.1 1114 = .ok (.iload 4, 2) := by decide +kernel
theorem dL_law_1116 : decode mL_law.2.1 1116 = .ok (.iconst 2, 1) := by decide +kernel
theorem dL_law_1117 : decode mL_law.2.1 1117 = .ok (.iadd, 1) := by decide +kernel
theorem dL_law_1118 : decode mL_law.2.1 1118 = .ok (.iaload, 1) := by decide +kernel
theorem dL_law_1119 : decode mL_law.2.1 1119 = .ok (.aload_n 0, 1) := by decide +kernel
theorem dL_law_1120 : decode mL_law.2.1 1120 = .ok (.iload 4, 2) := by decide +kernel
theorem dL_law_1122 : decode mL_law.2.1 1122 = .ok (.iconst 3, 1) := by decide +kernel
theorem dL_law_1123 : decode mL_law.2.1 1123 = .ok (.iadd, 1) := by decide +kernel
theorem dL_law_1124 : decode mL_law.2.1 1124 = .ok (.iaload, 1) := by decide +kernel
theorem dL_law_1125 : decode mL_law.2.1 1125 = .ok (.invokevirtual 117, 3) := by decide +kernel
theorem dL_law_1128 : decode mL_law.2.1 1128 = .ok (.aload_n 2, 1) := by decide +kernel
theorem dL_law_1129 : decode mL_law.2.1 1129 = .ok (.aload_n 0, 1) := by decide +kernel
theorem dL_law_1130 : decode mL_law.2.1 1130 = .ok (.iload 4, 2) := by decide +kernel
theorem dL_law_1132 : decode mL_law.2.1 1132 = .ok (.iconst 1, 1) := by decide +kernel
theorem dL_law_1133 : decode mL_law.2.1 1133 = .ok (.iadd, 1) := by decide +kernel
theorem dL_law_1134 : decode mL_law.2.1 1134 = .ok (.iaload, 1) := by decide +kernel
theorem dL_law_1135 : decode mL_law.2.1 1135 = .ok (.aload_n 0, 1) := by decide +kernel
theorem dL_law_1136 : decode mL_law.2.1 1136 = .ok (.iload 4, 2) := by decide +kernel
theorem dL_law_1138 : decode mL_law.2.1 1138 = .ok (.iconst 2, 1) := by decide +kernel
theorem dL_law_1139 : decode mL_law.2.1 1139 = .ok (.iadd, 1) := by decide +kernel
theorem dL_law_1140 : decode mL_law.2.1 1140 = .ok (.iaload, 1) := by decide +kernel
theorem dL_law_1141 : decode mL_law.2.1 1141 = .ok (.aload_n 0, 1) := by decide +kernel
theorem dL_law_1142 : decode mL_law.2.1 1142 = .ok (.iload 4, 2) := by decide +kernel
theorem dL_law_1144 : decode mL_law.2.1 1144 = .ok (.iconst 3, 1) := by decide +kernel
theorem dL_law_1145 : decode mL_law.2.1 1145 = .ok (.iadd, 1) := by decide +kernel
theorem dL_law_1146 : decode mL_law.2.1 1146 = .ok (.iaload, 1) := by decide +kernel
theorem dL_law_1147 : decode mL_law.2.1 1147 = .ok (.invokevirtual 121, 3) := by decide +kernel
theorem dL_law_1150 : decode mL_law.2.1 1150 = .ok (.if_icmp .eq 1607, 3) := by decide +kernel
theorem dL_law_1153 : decode mL_law.2.1 1153 = .ok (.iconst 0, 1) := by decide +kernel
theorem dL_law_1154 : decode mL_law.2.1 1154 = .ok (.ireturn, 1) := by decide +kernel
theorem dL_law_1155 : decode mL_law.2.1 1155 = .ok (.aload_n 1, 1) := by decide +kernel
theorem dL_law_1156 : decode mL_law.2.1 1156 = .ok (.aload_n 0, 1) := by decide +kernel
theorem dL_law_1157 : decode mL_law.2.1 1157 = .ok (.iload 4, 2) := by decide +kernel
theorem dL_law_1159 : decode mL_law.2.1 1159 = .ok (.iconst 1, 1) := by decide +kernel
theorem dL_law_1160 : decode mL_law.2.1 1160 = .ok (.iadd, 1) := by decide +kernel
theorem dL_law_1161 : decode mL_law.2.1 1161 = .ok (.iaload, 1) := by decide +kernel
theorem dL_law_1162 : decode mL_law.2.1 1162 = .ok (.invokevirtual 122, 3) := by decide +kernel
theorem dL_law_1165 : decode mL_law.2.1 1165 = .ok (.aload_n 2, 1) := by decide +kernel
theorem dL_law_1166 : decode mL_law.2.1 1166 = .ok (.aload_n 0, 1) := by decide +kernel
theorem dL_law_1167 : decode mL_law.2.1 1167 = .ok (.iload 4, 2) := by decide +kernel
theorem dL_law_1169 : decode mL_law.2.1 1169 = .ok (.iconst 1, 1) := by decide +kernel
theorem dL_law_1170 : decode mL_law.2.1 1170 = .ok (.iadd, 1) := by decide +kernel
theorem dL_law_1171 : decode mL_law.2.1 1171 = .ok (.iaload, 1) := by decide +kernel
theorem dL_law_1172 : decode mL_law.2.1 1172 = .ok (.invokevirtual 125, 3) := by decide +kernel
theorem dL_law_1175 : decode mL_law.2.1 1175 = .ok (.if_icmp .eq 1582, 3) := by decide +kernel
theorem dL_law_1178 : decode mL_law.2.1 1178 = .ok (.iconst 0, 1) := by decide +kernel
theorem dL_law_1179 : decode mL_law.2.1 1179 = .ok (.ireturn, 1) := by decide +kernel
theorem dL_law_1180 : decode mL_law.2.1 1180 = .ok (.aload_n 1, 1) := by decide +kernel
theorem dL_law_1181 : decode mL_law.2.1 1181 = .ok (.aload_n 0, 1) := by decide +kernel
theorem dL_law_1182 : decode mL_law.2.1 1182 = .ok (.iload 4, 2) := by decide +kernel
theorem dL_law_1184 : decode mL_law.2.1 1184 = .ok (.iconst 1, 1) := by decide +kernel
theorem dL_law_1185 : decode mL_law.2.1 1185 = .ok (.iadd, 1) := by decide +kernel
theorem dL_law_1186 : decode mL_law.2.1 1186 = .ok (.iaload, 1) := by decide +kernel
theorem dL_law_1187 : decode mL_law.2.1 1187 = .ok (.aload_n 0, 1) := by decide +kernel
theorem dL_law_1188 : decode mL_law.2.1 1188 = .ok (.iload 4, 2) := by decide +kernel
theorem dL_law_1190 : decode mL_law.2.1 1190 = .ok (.iconst 2, 1) := by decide +kernel
theorem dL_law_1191 : decode mL_law.2.1 1191 = .ok (.iadd, 1) := by decide +kernel
theorem dL_law_1192 : decode mL_law.2.1 1192 = .ok (.iaload, 1) := by decide +kernel
theorem dL_law_1193 : decode mL_law.2.1 1193 = .ok (.aload_n 0, 1) := by decide +kernel
theorem dL_law_1194 : decode mL_law.2.1 1194 = .ok (.iload 4, 2) := by decide +kernel
theorem dL_law_1196 : decode mL_law.2.1 1196 = .ok (.iconst 3, 1) := by decide +kernel
theorem dL_law_1197 : decode mL_law.2.1 1197 = .ok (.iadd, 1) := by decide +kernel
theorem dL_law_1198 : decode mL_law.2.1 1198 = .ok (.iaload, 1) := by decide +kernel
theorem dL_law_1199 : decode mL_law.2.1 1199 = .ok (.aload_n 0, 1) := by decide +kernel
theorem dL_law_1200 : decode mL_law.2.1 1200 = .ok (.iload 4, 2) := by decide +kernel
theorem dL_law_1202 : decode mL_law.2.1 1202 = .ok (.iconst 4, 1) := by decide +kernel
theorem dL_law_1203 : decode mL_law.2.1 1203 = .ok (.iadd, 1) := by decide +kernel
theorem dL_law_1204 : decode mL_law.2.1 1204 = .ok (.iaload, 1) := by decide +kernel
theorem dL_law_1205 : decode mL_law.2.1 1205 = .ok (.i2l, 1) := by decide +kernel
theorem dL_law_1206 : decode mL_law.2.1 1206 = .ok (.bipush 32, 2) := by decide +kernel
theorem dL_law_1208 : decode mL_law.2.1 1208 = .ok (.lshl, 1) := by decide +kernel
theorem dL_law_1209 : decode mL_law.2.1 1209 = .ok (.aload_n 0, 1) := by decide +kernel
theorem dL_law_1210 : decode mL_law.2.1 1210 = .ok (.iload 4, 2) := by decide +kernel
theorem dL_law_1212 : decode mL_law.2.1 1212 = .ok (.iconst 5, 1) := by decide +kernel
theorem dL_law_1213 : decode mL_law.2.1 1213 = .ok (.iadd, 1) := by decide +kernel
theorem dL_law_1214 : decode mL_law.2.1 1214 = .ok (.iaload, 1) := by decide +kernel
theorem dL_law_1215 : decode mL_law.2.1 1215 = .ok (.i2l, 1) := by decide +kernel
theorem dL_law_1216 : decode mL_law.2.1 1216 = .ok (.ldc2_w 52, 3) := by decide +kernel
theorem dL_law_1219 : decode mL_law.2.1 1219 = .ok (.land, 1) := by decide +kernel
theorem dL_law_1220 : decode mL_law.2.1 1220 = .ok (.lor, 1) := by decide +kernel
theorem dL_law_1221 : decode mL_law.2.1 1221 = .ok (.aload_n 0, 1) := by decide +kernel
theorem dL_law_1222 : decode mL_law.2.1 1222 = .ok (.iload 4, 2) := by decide +kernel
theorem dL_law_1224 : decode mL_law.2.1 1224 = .ok (.bipush 6, 2) := by decide +kernel
theorem dL_law_1226 : decode mL_law.2.1 1226 = .ok (.iadd, 1) := by decide +kernel
theorem dL_law_1227 : decode mL_law.2.1 1227 = .ok (.iaload, 1) := by decide +kernel
theorem dL_law_1228 : decode mL_law.2.1 1228 = .ok (.aload_n 0, 1) := by decide +kernel
theorem dL_law_1229 : decode mL_law.2.1 1229 = .ok (.iload 4, 2) := by decide +kernel
theorem dL_law_1231 : decode mL_law.2.1 1231 = .ok (.bipush 7, 2) := by decide +kernel
theorem dL_law_1233 : decode mL_law.2.1 1233 = .ok (.iadd, 1) := by decide +kernel
theorem dL_law_1234 : decode mL_law.2.1 1234 = .ok (.iaload, 1) := by decide +kernel
theorem dL_law_1235 : decode mL_law.2.1 1235 = .ok (.invokevirtual 126, 3) := by decide +kernel
theorem dL_law_1238 : decode mL_law.2.1 1238 = .ok (.aload_n 2, 1) := by decide +kernel
theorem dL_law_1239 : decode mL_law.2.1 1239 = .ok (.aload_n 0, 1) := by decide +kernel
theorem dL_law_1240 : decode mL_law.2.1 1240 = .ok (.iload 4, 2) := by decide +kernel
theorem dL_law_1242 : decode mL_law.2.1 1242 = .ok (.iconst 1, 1) := by decide +kernel
theorem dL_law_1243 : decode mL_law.2.1 1243 = .ok (.iadd, 1) := by decide +kernel
theorem dL_law_1244 : decode mL_law.2.1 1244 = .ok (.iaload, 1) := by decide +kernel
theorem dL_law_1245 : decode mL_law.2.1 1245 = .ok (.aload_n 0, 1) := by decide +kernel
theorem dL_law_1246 : decode mL_law.2.1 1246 = .ok (.iload 4, 2) := by decide +kernel
theorem dL_law_1248 : decode mL_law.2.1 1248 = .ok (.iconst 2, 1) := by decide +kernel
theorem dL_law_1249 : decode mL_law.2.1 1249 = .ok (.iadd, 1) := by decide +kernel
theorem dL_law_1250 : decode mL_law.2.1 1250 = .ok (.iaload, 1) := by decide +kernel
theorem dL_law_1251 : decode mL_law.2.1 1251 = .ok (.aload_n 0, 1) := by decide +kernel
theorem dL_law_1252 : decode mL_law.2.1 1252 = .ok (.iload 4, 2) := by decide +kernel
theorem dL_law_1254 : decode mL_law.2.1 1254 = .ok (.iconst 3, 1) := by decide +kernel
theorem dL_law_1255 : decode mL_law.2.1 1255 = .ok (.iadd, 1) := by decide +kernel
theorem dL_law_1256 : decode mL_law.2.1 1256 = .ok (.iaload, 1) := by decide +kernel
theorem dL_law_1257 : decode mL_law.2.1 1257 = .ok (.aload_n 0, 1) := by decide +kernel
theorem dL_law_1258 : decode mL_law.2.1 1258 = .ok (.iload 4, 2) := by decide +kernel
theorem dL_law_1260 : decode mL_law.2.1 1260 = .ok (.iconst 4, 1) := by decide +kernel
theorem dL_law_1261 : decode mL_law.2.1 1261 = .ok (.iadd, 1) := by decide +kernel
theorem dL_law_1262 : decode mL_law.2.1 1262 = .ok (.iaload, 1) := by decide +kernel
theorem dL_law_1263 : decode mL_law.2.1 1263 = .ok (.i2l, 1) := by decide +kernel
theorem dL_law_1264 : decode mL_law.2.1 1264 = .ok (.bipush 32, 2) := by decide +kernel
theorem dL_law_1266 : decode mL_law.2.1 1266 = .ok (.lshl, 1) := by decide +kernel
theorem dL_law_1267 : decode mL_law.2.1 1267 = .ok (.aload_n 0, 1) := by decide +kernel
theorem dL_law_1268 : decode mL_law.2.1 1268 = .ok (.iload 4, 2) := by decide +kernel
theorem dL_law_1270 : decode mL_law.2.1 1270 = .ok (.iconst 5, 1) := by decide +kernel
theorem dL_law_1271 : decode mL_law.2.1 1271 = .ok (.iadd, 1) := by decide +kernel
theorem dL_law_1272 : decode mL_law.2.1 1272 = .ok (.iaload, 1) := by decide +kernel
theorem dL_law_1273 : decode mL_law.2.1 1273 = .ok (.i2l, 1) := by decide +kernel
theorem dL_law_1274 : decode mL_law.2.1 1274 = .ok (.ldc2_w 52, 3) := by decide +kernel
theorem dL_law_1277 : decode mL_law.2.1 1277 = .ok (.land, 1) := by decide +kernel
theorem dL_law_1278 : decode mL_law.2.1 1278 = .ok (.lor, 1) := by decide +kernel
theorem dL_law_1279 : decode mL_law.2.1 1279 = .ok (.aload_n 0, 1) := by decide +kernel
theorem dL_law_1280 : decode mL_law.2.1 1280 = .ok (.iload 4, 2) := by decide +kernel
theorem dL_law_1282 : decode mL_law.2.1 1282 = .ok (.bipush 6, 2) := by decide +kernel
theorem dL_law_1284 : decode mL_law.2.1 1284 = .ok (.iadd, 1) := by decide +kernel
theorem dL_law_1285 : decode mL_law.2.1 1285 = .ok (.iaload, 1) := by decide +kernel
theorem dL_law_1286 : decode mL_law.2.1 1286 = .ok (.aload_n 0, 1) := by decide +kernel
theorem dL_law_1287 : decode mL_law.2.1 1287 = .ok (.iload 4, 2) := by decide +kernel
theorem dL_law_1289 : decode mL_law.2.1 1289 = .ok (.bipush 7, 2) := by decide +kernel
theorem dL_law_1291 : decode mL_law.2.1 1291 = .ok (.iadd, 1) := by decide +kernel
theorem dL_law_1292 : decode mL_law.2.1 1292 = .ok (.iaload, 1) := by decide +kernel
theorem dL_law_1293 : decode mL_law.2.1 1293 = .ok (.invokevirtual 130, 3) := by decide +kernel
theorem dL_law_1296 : decode mL_law.2.1 1296 = .ok (.if_icmp .eq 1461, 3) := by decide +kernel
theorem dL_law_1299 : decode mL_law.2.1 1299 = .ok (.iconst 0, 1) := by decide +kernel
theorem dL_law_1300 : decode mL_law.2.1 1300 = .ok (.ireturn, 1) := by decide +kernel
theorem dL_law_1301 : decode mL_law.2.1 1301 = .ok (.aload_n 1, 1) := by decide +kernel
theorem dL_law_1302 : decode mL_law.2.1 1302 = .ok (.aload_n 0, 1) := by decide +kernel
theorem dL_law_1303 : decode mL_law.2.1 1303 = .ok (.iload 4, 2) := by decide +kernel
theorem dL_law_1305 : decode mL_law.2.1 1305 = .ok (.iconst 1, 1) := by decide +kernel
theorem dL_law_1306 : decode mL_law.2.1 1306 = .ok (.iadd, 1) := by decide +kernel
theorem dL_law_1307 : decode mL_law.2.1 1307 = .ok (.iaload, 1) := by decide +kernel
theorem dL_law_1308 : decode mL_law.2.1 1308 = .ok (.aload_n 0, 1) := by decide +kernel
theorem dL_law_1309 : decode mL_law.2.1 1309 = .ok (.iload 4, 2) := by decide +kernel
theorem dL_law_1311 : decode mL_law.2.1 1311 = .ok (.iconst 2, 1) := by decide +kernel
theorem dL_law_1312 : decode mL_law.2.1 1312 = .ok (.iadd, 1) := by decide +kernel
theorem dL_law_1313 : decode mL_law.2.1 1313 = .ok (.iaload, 1) := by decide +kernel
theorem dL_law_1314 : decode mL_law.2.1 1314 = .ok (.invokevirtual 131, 3) := by decide +kernel
theorem dL_law_1317 : decode mL_law.2.1 1317 = .ok (.aload_n 2, 1) := by decide +kernel
theorem dL_law_1318 : decode mL_law.2.1 1318 = .ok (.aload_n 0, 1) := by decide +kernel
theorem dL_law_1319 : decode mL_law.2.1 1319 = .ok (.iload 4, 2) := by decide +kernel
theorem dL_law_1321 : decode mL_law.2.1 1321 = .ok (.iconst 1, 1) := by decide +kernel
theorem dL_law_1322 : decode mL_law.2.1 1322 = .ok (.iadd, 1) := by decide +kernel
theorem dL_law_1323 : decode mL_law.2.1 1323 = .ok (.iaload, 1) := by decide +kernel
theorem dL_law_1324 : decode mL_law.2.1 1324 = .ok (.aload_n 0, 1) := by decide +kernel
theorem dL_law_1325 : decode mL_law.2.1 1325 = .ok (.iload 4, 2) := by decide +kernel
theorem dL_law_1327 : decode mL_law.2.1 1327 = .ok (.iconst 2, 1) := by decide +kernel
theorem dL_law_1328 : decode mL_law.2.1 1328 = .ok (.iadd, 1) := by decide +kernel
theorem dL_law_1329 : decode mL_law.2.1 1329 = .ok (.iaload, 1) := by decide +kernel
theorem dL_law_1330 : decode mL_law.2.1 1330 = .ok (.invokevirtual 135, 3) := by decide +kernel
theorem dL_law_1333 : decode mL_law.2.1 1333 = .ok (.if_icmp .eq 1424, 3) := by decide +kernel
theorem dL_law_1336 : decode mL_law.2.1 1336 = .ok (.iconst 0, 1) := by decide +kernel
theorem dL_law_1337 : decode mL_law.2.1 1337 = .ok (.ireturn, 1) := by decide +kernel
theorem dL_law_1338 : decode mL_law.2.1 1338 = .ok (.aload_n 1, 1) := by decide +kernel
theorem dL_law_1339 : decode mL_law.2.1 1339 = .ok (.aload_n 0, 1) := by decide +kernel
theorem dL_law_1340 : decode mL_law.2.1 1340 = .ok (.iload 4, 2) := by decide +kernel
theorem dL_law_1342 : decode mL_law.2.1 1342 = .ok (.iconst 1, 1) := by decide +kernel
theorem dL_law_1343 : decode mL_law.2.1 1343 = .ok (.iadd, 1) := by decide +kernel
theorem dL_law_1344 : decode mL_law.2.1 1344 = .ok (.iaload, 1) := by decide +kernel
theorem dL_law_1345 : decode mL_law.2.1 1345 = .ok (.aload_n 0, 1) := by decide +kernel
theorem dL_law_1346 : decode mL_law.2.1 1346 = .ok (.iload 4, 2) := by decide +kernel
theorem dL_law_1348 : decode mL_law.2.1 1348 = .ok (.iconst 2, 1) := by decide +kernel
theorem dL_law_1349 : decode mL_law.2.1 1349 = .ok (.iadd, 1) := by decide +kernel
theorem dL_law_1350 : decode mL_law.2.1 1350 = .ok (.iaload, 1) := by decide +kernel
theorem dL_law_1351 : decode mL_law.2.1 1351 = .ok (.aload_n 0, 1) := by decide +kernel
theorem dL_law_1352 : decode mL_law.2.1 1352 = .ok (.iload 4, 2) := by decide +kernel
theorem dL_law_1354 : decode mL_law.2.1 1354 = .ok (.iconst 3, 1) := by decide +kernel
theorem dL_law_1355 : decode mL_law.2.1 1355 = .ok (.iadd, 1) := by decide +kernel
theorem dL_law_1356 : decode mL_law.2.1 1356 = .ok (.iaload, 1) := by decide +kernel
theorem dL_law_1357 : decode mL_law.2.1 1357 = .ok (.aload_n 0, 1) := by decide +kernel
theorem dL_law_1358 : decode mL_law.2.1 1358 = .ok (.iload 4, 2) := by decide +kernel
theorem dL_law_1360 : decode mL_law.2.1 1360 = .ok (.iconst 4, 1) := by decide +kernel
theorem dL_law_1361 : decode mL_law.2.1 1361 = .ok (.iadd, 1) := by decide +kernel
theorem dL_law_1362 : decode mL_law.2.1 1362 = .ok (.iaload, 1) := by decide +kernel
theorem dL_law_1363 : decode mL_law.2.1 1363 = .ok (.i2l, 1) := by decide +kernel
theorem dL_law_1364 : decode mL_law.2.1 1364 = .ok (.bipush 32, 2) := by decide +kernel
theorem dL_law_1366 : decode mL_law.2.1 1366 = .ok (.lshl, 1) := by decide +kernel
theorem dL_law_1367 : decode mL_law.2.1 1367 = .ok (.aload_n 0, 1) := by decide +kernel
theorem dL_law_1368 : decode mL_law.2.1 1368 = .ok (.iload 4, 2) := by decide +kernel
theorem dL_law_1370 : decode mL_law.2.1 1370 = .ok (.iconst 5, 1) := by decide +kernel
theorem dL_law_1371 : decode mL_law.2.1 1371 = .ok (.iadd, 1) := by decide +kernel
theorem dL_law_1372 : decode mL_law.2.1 1372 = .ok (.iaload, 1) := by decide +kernel
theorem dL_law_1373 : decode mL_law.2.1 1373 = .ok (.i2l, 1) := by decide +kernel
theorem dL_law_1374 : decode mL_law.2.1 1374 = .ok (.ldc2_w 52, 3) := by decide +kernel
theorem dL_law_1377 : decode mL_law.2.1 1377 = .ok (.land, 1) := by decide +kernel
theorem dL_law_1378 : decode mL_law.2.1 1378 = .ok (.lor, 1) := by decide +kernel
theorem dL_law_1379 : decode mL_law.2.1 1379 = .ok (.aload_n 0, 1) := by decide +kernel
theorem dL_law_1380 : decode mL_law.2.1 1380 = .ok (.iload 4, 2) := by decide +kernel
theorem dL_law_1382 : decode mL_law.2.1 1382 = .ok (.bipush 6, 2) := by decide +kernel
theorem dL_law_1384 : decode mL_law.2.1 1384 = .ok (.iadd, 1) := by decide +kernel
theorem dL_law_1385 : decode mL_law.2.1 1385 = .ok (.iaload, 1) := by decide +kernel
theorem dL_law_1386 : decode mL_law.2.1 1386 = .ok (.aload_n 0, 1) := by decide +kernel
theorem dL_law_1387 : decode mL_law.2.1 1387 = .ok (.iload 4, 2) := by decide +kernel
theorem dL_law_1389 : decode mL_law.2.1 1389 = .ok (.bipush 7, 2) := by decide +kernel
theorem dL_law_1391 : decode mL_law.2.1 1391 = .ok (.iadd, 1) := by decide +kernel
theorem dL_law_1392 : decode mL_law.2.1 1392 = .ok (.iaload, 1) := by decide +kernel
theorem dL_law_1393 : decode mL_law.2.1 1393 = .ok (.invokevirtual 136, 3) := by decide +kernel
theorem dL_law_1396 : decode mL_law.2.1 1396 = .ok (.aload_n 2, 1) := by decide +kernel
theorem dL_law_1397 : decode mL_law.2.1 1397 = .ok (.aload_n 0, 1) := by decide +kernel
theorem dL_law_1398 : decode mL_law.2.1 1398 = .ok (.iload 4, 2) := by decide +kernel
theorem dL_law_1400 : decode mL_law.2.1 1400 = .ok (.iconst 1, 1) := by decide +kernel
theorem dL_law_1401 : decode mL_law.2.1 1401 = .ok (.iadd, 1) := by decide +kernel
theorem dL_law_1402 : decode mL_law.2.1 1402 = .ok (.iaload, 1) := by decide +kernel
theorem dL_law_1403 : decode mL_law.2.1 1403 = .ok (.aload_n 0, 1) := by decide +kernel
theorem dL_law_1404 : decode mL_law.2.1 1404 = .ok (.iload 4, 2) := by decide +kernel
theorem dL_law_1406 : decode mL_law.2.1 1406 = .ok (.iconst 2, 1) := by decide +kernel
theorem dL_law_1407 : decode mL_law.2.1 1407 = .ok (.iadd, 1) := by decide +kernel
theorem dL_law_1408 : decode mL_law.2.1 1408 = .ok (.iaload, 1) := by decide +kernel
theorem dL_law_1409 : decode mL_law.2.1 1409 = .ok (.aload_n 0, 1) := by decide +kernel
theorem dL_law_1410 : decode mL_law.2.1 1410 = .ok (.iload 4, 2) := by decide +kernel
theorem dL_law_1412 : decode mL_law.2.1 1412 = .ok (.iconst 3, 1) := by decide +kernel
theorem dL_law_1413 : decode mL_law.2.1 1413 = .ok (.iadd, 1) := by decide +kernel
theorem dL_law_1414 : decode mL_law.2.1 1414 = .ok (.iaload, 1) := by decide +kernel
theorem dL_law_1415 : decode mL_law.2.1 1415 = .ok (.aload_n 0, 1) := by decide +kernel
theorem dL_law_1416 : decode mL_law.2.1 1416 = .ok (.iload 4, 2) := by decide +kernel
theorem dL_law_1418 : decode mL_law.2.1 1418 = .ok (.iconst 4, 1) := by decide +kernel
theorem dL_law_1419 : decode mL_law.2.1 1419 = .ok (.iadd, 1) := by decide +kernel
theorem dL_law_1420 : decode mL_law.2.1 1420 = .ok (.iaload, 1) := by decide +kernel
theorem dL_law_1421 : decode mL_law.2.1 1421 = .ok (.i2l, 1) := by decide +kernel
theorem dL_law_1422 : decode mL_law.2.1 1422 = .ok (.bipush 32, 2) := by decide +kernel
theorem dL_law_1424 : decode mL_law.2.1 1424 = .ok (.lshl, 1) := by decide +kernel
theorem dL_law_1425 : decode mL_law.2.1 1425 = .ok (.aload_n 0, 1) := by decide +kernel
theorem dL_law_1426 : decode mL_law.2.1 1426 = .ok (.iload 4, 2) := by decide +kernel
theorem dL_law_1428 : decode mL_law.2.1 1428 = .ok (.iconst 5, 1) := by decide +kernel
theorem dL_law_1429 : decode mL_law.2.1 1429 = .ok (.iadd, 1) := by decide +kernel
theorem dL_law_1430 : decode mL_law.2.1 1430 = .ok (.iaload, 1) := by decide +kernel
theorem dL_law_1431 : decode mL_law.2.1 1431 = .ok (.i2l, 1) := by decide +kernel
theorem dL_law_1432 : decode mL_law.2.1 1432 = .ok (.ldc2_w 52, 3) := by decide +kernel
theorem dL_law_1435 : decode mL_law.2.1 1435 = .ok (.land, 1) := by decide +kernel
theorem dL_law_1436 : decode mL_law.2.1 1436 = .ok (.lor, 1) := by decide +kernel
theorem dL_law_1437 : decode mL_law.2.1 1437 = .ok (.aload_n 0, 1) := by decide +kernel
theorem dL_law_1438 : decode mL_law.2.1 1438 = .ok (.iload 4, 2) := by decide +kernel
theorem dL_law_1440 : decode mL_law.2.1 1440 = .ok (.bipush 6, 2) := by decide +kernel
theorem dL_law_1442 : decode mL_law.2.1 1442 = .ok (.iadd, 1) := by decide +kernel
theorem dL_law_1443 : decode mL_law.2.1 1443 = .ok (.iaload, 1) := by decide +kernel
theorem dL_law_1444 : decode mL_law.2.1 1444 = .ok (.aload_n 0, 1) := by decide +kernel
theorem dL_law_1445 : decode mL_law.2.1 1445 = .ok (.iload 4, 2) := by decide +kernel
theorem dL_law_1447 : decode mL_law.2.1 1447 = .ok (.bipush 7, 2) := by decide +kernel
theorem dL_law_1449 : decode mL_law.2.1 1449 = .ok (.iadd, 1) := by decide +kernel
theorem dL_law_1450 : decode mL_law.2.1 1450 = .ok (.iaload, 1) := by decide +kernel
theorem dL_law_1451 : decode mL_law.2.1 1451 = .ok (.invokevirtual 139, 3) := by decide +kernel
theorem dL_law_1454 : decode mL_law.2.1 1454 = .ok (.if_icmp .eq 1303, 3) := by decide +kernel
theorem dL_law_1457 : decode mL_law.2.1 1457 = .ok (.iconst 0, 1) := by decide +kernel
theorem dL_law_1458 : decode mL_law.2.1 1458 = .ok (.ireturn, 1) := by decide +kernel
theorem dL_law_1459 : decode mL_law.2.1 1459 = .ok (.aload_n 1, 1) := by decide +kernel
theorem dL_law_1460 : decode mL_law.2.1 1460 = .ok (.aload_n 0, 1) := by decide +kernel
theorem dL_law_1461 : decode mL_law.2.1 1461 = .ok (.iload 4, 2) := by decide +kernel
theorem dL_law_1463 : decode mL_law.2.1 1463 = .ok (.iconst 1, 1) := by decide +kernel
theorem dL_law_1464 : decode mL_law.2.1 1464 = .ok (.iadd, 1) := by decide +kernel
theorem dL_law_1465 : decode mL_law.2.1 1465 = .ok (.iaload, 1) := by decide +kernel
theorem dL_law_1466 : decode mL_law.2.1 1466 = .ok (.aload_n 0, 1) := by decide +kernel
theorem dL_law_1467 : decode mL_law.2.1 1467 = .ok (.iload 4, 2) := by decide +kernel
theorem dL_law_1469 : decode mL_law.2.1 1469 = .ok (.iconst 2, 1) := by decide +kernel
theorem dL_law_1470 : decode mL_law.2.1 1470 = .ok (.iadd, 1) := by decide +kernel
theorem dL_law_1471 : decode mL_law.2.1 1471 = .ok (.iaload, 1) := by decide +kernel
theorem dL_law_1472 : decode mL_law.2.1 1472 = .ok (.aload_n 0, 1) := by decide +kernel
theorem dL_law_1473 : decode mL_law.2.1 1473 = .ok (.iload 4, 2) := by decide +kernel
theorem dL_law_1475 : decode mL_law.2.1 1475 = .ok (.iconst 3, 1) := by decide +kernel
theorem dL_law_1476 : decode mL_law.2.1 1476 = .ok (.iadd, 1) := by decide +kernel
theorem dL_law_1477 : decode mL_law.2.1 1477 = .ok (.iaload, 1) := by decide +kernel
theorem dL_law_1478 : decode mL_law.2.1 1478 = .ok (.aload_n 0, 1) := by decide +kernel
theorem dL_law_1479 : decode mL_law.2.1 1479 = .ok (.iload 4, 2) := by decide +kernel
theorem dL_law_1481 : decode mL_law.2.1 1481 = .ok (.iconst 4, 1) := by decide +kernel
theorem dL_law_1482 : decode mL_law.2.1 1482 = .ok (.iadd, 1) := by decide +kernel
theorem dL_law_1483 : decode mL_law.2.1 1483 = .ok (.iaload, 1) := by decide +kernel
theorem dL_law_1484 : decode mL_law.2.1 1484 = .ok (.i2l, 1) := by decide +kernel
theorem dL_law_1485 : decode mL_law.2.1 1485 = .ok (.bipush 32, 2) := by decide +kernel
theorem dL_law_1487 : decode mL_law.2.1 1487 = .ok (.lshl, 1) := by decide +kernel
theorem dL_law_1488 : decode mL_law.2.1 1488 = .ok (.aload_n 0, 1) := by decide +kernel
theorem dL_law_1489 : decode mL_law.2.1 1489 = .ok (.iload 4, 2) := by decide +kernel
theorem dL_law_1491 : decode mL_law.2.1 1491 = .ok (.iconst 5, 1) := by decide +kernel
theorem dL_law_1492 : decode mL_law.2.1 1492 = .ok (.iadd, 1) := by decide +kernel
theorem dL_law_1493 : decode mL_law.2.1 1493 = .ok (.iaload, 1) := by decide +kernel
theorem dL_law_1494 : decode mL_law.2.1 1494 = .ok (.i2l, 1) := by decide +kernel
theorem dL_law_1495 : decode mL_law.2.1 1495 = .ok (.ldc2_w 52, 3) := by decide +kernel
theorem dL_law_1498 : decode mL_law.2.1 1498 = .ok (.land, 1) := by decide +kernel
theorem dL_law_1499 : decode mL_law.2.1 1499 = .ok (.lor, 1) := by decide +kernel
theorem dL_law_1500 : decode mL_law.2.1 1500 = .ok (.aload_n 0, 1) := by decide +kernel
theorem dL_law_1501 : decode mL_law.2.1 1501 = .ok (.iload 4, 2) := by decide +kernel
theorem dL_law_1503 : decode mL_law.2.1 1503 = .ok (.bipush 6, 2) := by decide +kernel
theorem dL_law_1505 : decode mL_law.2.1 1505 = .ok (.iadd, 1) := by decide +kernel
theorem dL_law_1506 : decode mL_law.2.1 1506 = .ok (.iaload, 1) := by decide +kernel
theorem dL_law_1507 : decode mL_law.2.1 1507 = .ok (.invokevirtual 140, 3) := by decide +kernel
theorem dL_law_1510 : decode mL_law.2.1 1510 = .ok (.aload_n 2, 1) := by decide +kernel
theorem dL_law_1511 : decode mL_law.2.1 1511 = .ok (.aload_n 0, 1) := by decide +kernel
theorem dL_law_1512 : decode mL_law.2.1 1512 = .ok (.iload 4, 2) := by decide +kernel
theorem dL_law_1514 : decode mL_law.2.1 1514 = .ok (.iconst 1, 1) := by decide +kernel
theorem dL_law_1515 : decode mL_law.2.1 1515 = .ok (.iadd, 1) := by decide +kernel
theorem dL_law_1516 : decode mL_law.2.1 1516 = .ok (.iaload, 1) := by decide +kernel
theorem dL_law_1517 : decode mL_law.2.1 1517 = .ok (.aload_n 0, 1) := by decide +kernel
theorem dL_law_1518 : decode mL_law.2.1 1518 = .ok (.iload 4, 2) := by decide +kernel
theorem dL_law_1520 : decode mL_law.2.1 1520 = .ok (.iconst 2, 1) := by decide +kernel
theorem dL_law_1521 : decode mL_law.2.1 1521 = .ok (.iadd, 1) := by decide +kernel
theorem dL_law_1522 : decode mL_law.2.1 1522 = .ok (.iaload, 1) := by decide +kernel
theorem dL_law_1523 : decode mL_law.2.1 1523 = .ok (.aload_n 0, 1) := by decide +kernel
theorem dL_law_1524 : decode mL_law.2.1 1524 = .ok (.iload 4, 2) := by decide +kernel
theorem dL_law_1526 : decode mL_law.2.1 1526 = .ok (.iconst 3, 1) := by decide +kernel
theorem dL_law_1527 : decode mL_law.2.1 1527 = .ok (.iadd, 1) := by decide +kernel
theorem dL_law_1528 : decode mL_law.2.1 1528 = .ok (.iaload, 1) := by decide +kernel
theorem dL_law_1529 : decode mL_law.2.1 1529 = .ok (.aload_n 0, 1) := by decide +kernel
theorem dL_law_1530 : decode mL_law.2.1 1530 = .ok (.iload 4, 2) := by decide +kernel
theorem dL_law_1532 : decode mL_law.2.1 1532 = .ok (.iconst 4, 1) := by decide +kernel
theorem dL_law_1533 : decode mL_law.2.1 1533 = .ok (.iadd, 1) := by decide +kernel
theorem dL_law_1534 : decode mL_law.2.1 1534 = .ok (.iaload, 1) := by decide +kernel
theorem dL_law_1535 : decode mL_law.2.1 1535 = .ok (.i2l, 1) := by decide +kernel
theorem dL_law_1536 : decode mL_law.2.1 1536 = .ok (.bipush 32, 2) := by decide +kernel
theorem dL_law_1538 : decode mL_law.2.1 1538 = .ok (.lshl, 1) := by decide +kernel
theorem dL_law_1539 : decode mL_law.2.1 1539 = .ok (.aload_n 0, 1) := by decide +kernel
theorem dL_law_1540 : decode mL_law.2.1 1540 = .ok (.iload 4, 2) := by decide +kernel
theorem dL_law_1542 : decode mL_law.2.1 1542 = .ok (.iconst 5, 1) := by decide +kernel
theorem dL_law_1543 : decode mL_law.2.1 1543 = .ok (.iadd, 1) := by decide +kernel
theorem dL_law_1544 : decode mL_law.2.1 1544 = .ok (.iaload, 1) := by decide +kernel
theorem dL_law_1545 : decode mL_law.2.1 1545 = .ok (.i2l, 1) := by decide +kernel
theorem dL_law_1546 : decode mL_law.2.1 1546 = .ok (.ldc2_w 52, 3) := by decide +kernel
theorem dL_law_1549 : decode mL_law.2.1 1549 = .ok (.land, 1) := by decide +kernel
theorem dL_law_1550 : decode mL_law.2.1 1550 = .ok (.lor, 1) := by decide +kernel
theorem dL_law_1551 : decode mL_law.2.1 1551 = .ok (.aload_n 0, 1) := by decide +kernel
theorem dL_law_1552 : decode mL_law.2.1 1552 = .ok (.iload 4, 2) := by decide +kernel
theorem dL_law_1554 : decode mL_law.2.1 1554 = .ok (.bipush 6, 2) := by decide +kernel
theorem dL_law_1556 : decode mL_law.2.1 1556 = .ok (.iadd, 1) := by decide +kernel
theorem dL_law_1557 : decode mL_law.2.1 1557 = .ok (.iaload, 1) := by decide +kernel
theorem dL_law_1558 : decode mL_law.2.1 1558 = .ok (.invokevirtual 144, 3) := by decide +kernel
theorem dL_law_1561 : decode mL_law.2.1 1561 = .ok (.if_icmp .eq 1196, 3) := by decide +kernel
theorem dL_law_1564 : decode mL_law.2.1 1564 = .ok (.iconst 0, 1) := by decide +kernel
theorem dL_law_1565 : decode mL_law.2.1 1565 = .ok (.ireturn, 1) := by decide +kernel
theorem dL_law_1566 : decode mL_law.2.1 1566 = .ok (.aload_n 1, 1) := by decide +kernel
theorem dL_law_1567 : decode mL_law.2.1 1567 = .ok (.aload_n 0, 1) := by decide +kernel
theorem dL_law_1568 : decode mL_law.2.1 1568 = .ok (.iload 4, 2) := by decide +kernel
theorem dL_law_1570 : decode mL_law.2.1 1570 = .ok (.iconst 1, 1) := by decide +kernel
theorem dL_law_1571 : decode mL_law.2.1 1571 = .ok (.iadd, 1) := by decide +kernel
theorem dL_law_1572 : decode mL_law.2.1 1572 = .ok (.iaload, 1) := by decide +kernel
theorem dL_law_1573 : decode mL_law.2.1 1573 = .ok (.aload_n 0, 1) := by decide +kernel
theorem dL_law_1574 : decode mL_law.2.1 1574 = .ok (.iload 4, 2) := by decide +kernel
theorem dL_law_1576 : decode mL_law.2.1 1576 = .ok (.iconst 2, 1) := by decide +kernel
theorem dL_law_1577 : decode mL_law.2.1 1577 = .ok (.iadd, 1) := by decide +kernel
theorem dL_law_1578 : decode mL_law.2.1 1578 = .ok (.iaload, 1) := by decide +kernel
theorem dL_law_1579 : decode mL_law.2.1 1579 = .ok (.aload_n 0, 1) := by decide +kernel
theorem dL_law_1580 : decode mL_law.2.1 1580 = .ok (.iload 4, 2) := by decide +kernel
theorem dL_law_1582 : decode mL_law.2.1 1582 = .ok (.iconst 3, 1) := by decide +kernel
theorem dL_law_1583 : decode mL_law.2.1 1583 = .ok (.iadd, 1) := by decide +kernel
theorem dL_law_1584 : decode mL_law.2.1 1584 = .ok (.iaload, 1) := by decide +kernel
theorem dL_law_1585 : decode mL_law.2.1 1585 = .ok (.aload_n 0, 1) := by decide +kernel
theorem dL_law_1586 : decode mL_law.2.1 1586 = .ok (.iload 4, 2) := by decide +kernel
theorem dL_law_1588 : decode mL_law.2.1 1588 = .ok (.iconst 4, 1) := by decide +kernel
theorem dL_law_1589 : decode mL_law.2.1 1589 = .ok (.iadd, 1) := by decide +kernel
theorem dL_law_1590 : decode mL_law.2.1 1590 = .ok (.iaload, 1) := by decide +kernel
theorem dL_law_1591 : decode mL_law.2.1 1591 = .ok (.i2l, 1) := by decide +kernel
theorem dL_law_1592 : decode mL_law.2.1 1592 = .ok (.bipush 32, 2) := by decide +kernel
theorem dL_law_1594 : decode mL_law.2.1 1594 = .ok (.lshl, 1) := by decide +kernel
theorem dL_law_1595 : decode mL_law.2.1 1595 = .ok (.aload_n 0, 1) := by decide +kernel
theorem dL_law_1596 : decode mL_law.2.1 1596 = .ok (.iload 4, 2) := by decide +kernel
theorem dL_law_1598 : decode mL_law.2.1 1598 = .ok (.iconst 5, 1) := by decide +kernel
theorem dL_law_1599 : decode mL_law.2.1 1599 = .ok (.iadd, 1) := by decide +kernel
theorem dL_law_1600 : decode mL_law.2.1 1600 = .ok (.iaload, 1) := by decide +kernel
theorem dL_law_1601 : decode mL_law.2.1 1601 = .ok (.i2l, 1) := by decide +kernel
theorem dL_law_1602 : decode mL_law.2.1 1602 = .ok (.ldc2_w 52, 3) := by decide +kernel
theorem dL_law_1605 : decode mL_law.2.1 1605 = .ok (.land, 1) := by decide +kernel
theorem dL_law_1606 : decode mL_law.2.1 1606 = .ok (.lor, 1) := by decide +kernel
theorem dL_law_1607 : decode mL_law.2.1 1607 = .ok (.aload_n 0, 1) := by decide +kernel
theorem dL_law_1608 : decode mL_law.2.1 1608 = .ok (.iload 4, 2) := by decide +kernel
theorem dL_law_1610 : decode mL_law.2.1 1610 = .ok (.bipush 6, 2) := by decide +kernel
theorem dL_law_1612 : decode mL_law.2.1 1612 = .ok (.iadd, 1) := by decide +kernel
theorem dL_law_1613 : decode mL_law.2.1 1613 = .ok (.iaload, 1) := by decide +kernel
theorem dL_law_1614 : decode mL_law.2.1 1614 = .ok (.invokevirtual 145, 3) := by decide +kernel
theorem dL_law_1617 : decode mL_law.2.1 1617 = .ok (.aload_n 2, 1) := by decide +kernel
theorem dL_law_1618 : decode mL_law.2.1 1618 = .ok (.aload_n 0, 1) := by decide +kernel
theorem dL_law_1619 : decode mL_law.2.1 1619 = .ok (.iload 4, 2) := by decide +kernel
theorem dL_law_1621 : decode mL_law.2.1 1621 = .ok (.iconst 1, 1) := by decide +kernel
theorem dL_law_1622 : decode mL_law.2.1 1622 = .ok (.iadd, 1) := by decide +kernel
theorem dL_law_1623 : decode mL_law.2.1 1623 = .ok (.iaload, 1) := by decide +kernel
theorem dL_law_1624 : decode mL_law.2.1 1624 = .ok (.aload_n 0, 1) := by decide +kernel
theorem dL_law_1625 : decode mL_law.2.1 1625 = .ok (.iload 4, 2) := by decide +kernel
theorem dL_law_1627 : decode mL_law.2.1 1627 = .ok (.iconst 2, 1) := by decide +kernel
theorem dL_law_1628 : decode mL_law.2.1 1628 = .ok (.iadd, 1) := by decide +kernel
theorem dL_law_1629 : decode mL_law.2.1 1629 = .ok (.iaload, 1) := by decide +kernel
theorem dL_law_1630 : decode mL_law.2.1 1630 = .ok (.aload_n 0, 1) := by decide +kernel
theorem dL_law_1631 : decode mL_law.2.1 1631 = .ok (.iload 4, 2) := by decide +kernel
theorem dL_law_1633 : decode mL_law.2.1 1633 = .ok (.iconst 3, 1) := by decide +kernel
theorem dL_law_1634 : decode mL_law.2.1 1634 = .ok (.iadd, 1) := by decide +kernel
theorem dL_law_1635 : decode mL_law.2.1 1635 = .ok (.iaload, 1) := by decide +kernel
theorem dL_law_1636 : decode mL_law.2.1 1636 = .ok (.aload_n 0, 1) := by decide +kernel
theorem dL_law_1637 : decode mL_law.2.1 1637 = .ok (.iload 4, 2) := by decide +kernel
theorem dL_law_1639 : decode mL_law.2.1 1639 = .ok (.iconst 4, 1) := by decide +kernel
theorem dL_law_1640 : decode mL_law.2.1 1640 = .ok (.iadd, 1) := by decide +kernel
theorem dL_law_1641 : decode mL_law.2.1 1641 = .ok (.iaload, 1) := by decide +kernel
theorem dL_law_1642 : decode mL_law.2.1 1642 = .ok (.i2l, 1) := by decide +kernel
theorem dL_law_1643 : decode mL_law.2.1 1643 = .ok (.bipush 32, 2) := by decide +kernel
theorem dL_law_1645 : decode mL_law.2.1 1645 = .ok (.lshl, 1) := by decide +kernel
theorem dL_law_1646 : decode mL_law.2.1 1646 = .ok (.aload_n 0, 1) := by decide +kernel
theorem dL_law_1647 : decode mL_law.2.1 1647 = .ok (.iload 4, 2) := by decide +kernel
theorem dL_law_1649 : decode mL_law.2.1 1649 = .ok (.iconst 5, 1) := by decide +kernel
theorem dL_law_1650 : decode mL_law.2.1 1650 = .ok (.iadd, 1) := by decide +kernel
theorem dL_law_1651 : decode mL_law.2.1 1651 = .ok (.iaload, 1) := by decide +kernel
theorem dL_law_1652 : decode mL_law.2.1 1652 = .ok (.i2l, 1) := by decide +kernel
theorem dL_law_1653 : decode mL_law.2.1 1653 = .ok (.ldc2_w 52, 3) := by decide +kernel
theorem dL_law_1656 : decode mL_law.2.1 1656 = .ok (.land, 1) := by decide +kernel
theorem dL_law_1657 : decode mL_law.2.1 1657 = .ok (.lor, 1) := by decide +kernel
theorem dL_law_1658 : decode mL_law.2.1 1658 = .ok (.aload_n 0, 1) := by decide +kernel
theorem dL_law_1659 : decode mL_law.2.1 1659 = .ok (.iload 4, 2) := by decide +kernel
theorem dL_law_1661 : decode mL_law.2.1 1661 = .ok (.bipush 6, 2) := by decide +kernel
theorem dL_law_1663 : decode mL_law.2.1 1663 = .ok (.iadd, 1) := by decide +kernel
theorem dL_law_1664 : decode mL_law.2.1 1664 = .ok (.iaload, 1) := by decide +kernel
theorem dL_law_1665 : decode mL_law.2.1 1665 = .ok (.invokevirtual 148, 3) := by decide +kernel
theorem dL_law_1668 : decode mL_law.2.1 1668 = .ok (.if_icmp .eq 1089, 3) := by decide +kernel
theorem dL_law_1671 : decode mL_law.2.1 1671 = .ok (.iconst 0, 1) := by decide +kernel
theorem dL_law_1672 : decode mL_law.2.1 1672 = .ok (.ireturn, 1) := by decide +kernel
theorem dL_law_1673 : decode mL_law.2.1 1673 = .ok (.aload_n 1, 1) := by decide +kernel
theorem dL_law_1674 : decode mL_law.2.1 1674 = .ok (.aload_n 0, 1) := by decide +kernel
theorem dL_law_1675 : decode mL_law.2.1 1675 = .ok (.iload 4, 2) := by decide +kernel
theorem dL_law_1677 : decode mL_law.2.1 1677 = .ok (.iconst 1, 1) := by decide +kernel
theorem dL_law_1678 : decode mL_law.2.1 1678 = .ok (.iadd, 1) := by decide +kernel
theorem dL_law_1679 : decode mL_law.2.1 1679 = .ok (.iaload, 1) := by decide +kernel
theorem dL_law_1680 : decode mL_law.2.1 1680 = .ok (.aload_n 0, 1) := by decide +kernel
theorem dL_law_1681 : decode mL_law.2.1 1681 = .ok (.iload 4, 2) := by decide +kernel
theorem dL_law_1683 : decode mL_law.2.1 1683 = .ok (.iconst 2, 1) := by decide +kernel
theorem dL_law_1684 : decode mL_law.2.1 1684 = .ok (.iadd, 1) := by decide +kernel
theorem dL_law_1685 : decode mL_law.2.1 1685 = .ok (.iaload, 1) := by decide +kernel
theorem dL_law_1686 : decode mL_law.2.1 1686 = .ok (.aload_n 0, 1) := by decide +kernel
theorem dL_law_1687 : decode mL_law.2.1 1687 = .ok (.iload 4, 2) := by decide +kernel
theorem dL_law_1689 : decode mL_law.2.1 1689 = .ok (.iconst 3, 1) := by decide +kernel
theorem dL_law_1690 : decode mL_law.2.1 1690 = .ok (.iadd, 1) := by decide +kernel
theorem dL_law_1691 : decode mL_law.2.1 1691 = .ok (.iaload, 1) := by decide +kernel
theorem dL_law_1692 : decode mL_law.2.1 1692 = .ok (.aload_n 0, 1) := by decide +kernel
theorem dL_law_1693 : decode mL_law.2.1 1693 = .ok (.iload 4, 2) := by decide +kernel
theorem dL_law_1695 : decode mL_law.2.1 1695 = .ok (.iconst 4, 1) := by decide +kernel
theorem dL_law_1696 : decode mL_law.2.1 1696 = .ok (.iadd, 1) := by decide +kernel
theorem dL_law_1697 : decode mL_law.2.1 1697 = .ok (.iaload, 1) := by decide +kernel
theorem dL_law_1698 : decode mL_law.2.1 1698 = .ok (.i2l, 1) := by decide +kernel
theorem dL_law_1699 : decode mL_law.2.1 1699 = .ok (.bipush 32, 2) := by decide +kernel
theorem dL_law_1701 : decode mL_law.2.1 1701 = .ok (.lshl, 1) := by decide +kernel
theorem dL_law_1702 : decode mL_law.2.1 1702 = .ok (.aload_n 0, 1) := by decide +kernel
theorem dL_law_1703 : decode mL_law.2.1 1703 = .ok (.iload 4, 2) := by decide +kernel
theorem dL_law_1705 : decode mL_law.2.1 1705 = .ok (.iconst 5, 1) := by decide +kernel
theorem dL_law_1706 : decode mL_law.2.1 1706 = .ok (.iadd, 1) := by decide +kernel
theorem dL_law_1707 : decode mL_law.2.1 1707 = .ok (.iaload, 1) := by decide +kernel
theorem dL_law_1708 : decode mL_law.2.1 1708 = .ok (.i2l, 1) := by decide +kernel
theorem dL_law_1709 : decode mL_law.2.1 1709 = .ok (.ldc2_w 52, 3) := by decide +kernel
theorem dL_law_1712 : decode mL_law.2.1 1712 = .ok (.land, 1) := by decide +kernel
theorem dL_law_1713 : decode mL_law.2.1 1713 = .ok (.lor, 1) := by decide +kernel
theorem dL_law_1714 : decode mL_law.2.1 1714 = .ok (.aload_n 0, 1) := by decide +kernel
theorem dL_law_1715 : decode mL_law.2.1 1715 = .ok (.iload 4, 2) := by decide +kernel
theorem dL_law_1717 : decode mL_law.2.1 1717 = .ok (.bipush 6, 2) := by decide +kernel
theorem dL_law_1719 : decode mL_law.2.1 1719 = .ok (.iadd, 1) := by decide +kernel
theorem dL_law_1720 : decode mL_law.2.1 1720 = .ok (.iaload, 1) := by decide +kernel
theorem dL_law_1721 : decode mL_law.2.1 1721 = .ok (.aload_n 0, 1) := by decide +kernel
theorem dL_law_1722 : decode mL_law.2.1 1722 = .ok (.iload 4, 2) := by decide +kernel
theorem dL_law_1724 : decode mL_law.2.1 1724 = .ok (.bipush 7, 2) := by decide +kernel
theorem dL_law_1726 : decode mL_law.2.1 1726 = .ok (.iadd, 1) := by decide +kernel
theorem dL_law_1727 : decode mL_law.2.1 1727 = .ok (.iaload, 1) := by decide +kernel
theorem dL_law_1728 : decode mL_law.2.1 1728 = .ok (.invokevirtual 149, 3) := by decide +kernel
theorem dL_law_1731 : decode mL_law.2.1 1731 = .ok (.aload_n 2, 1) := by decide +kernel
theorem dL_law_1732 : decode mL_law.2.1 1732 = .ok (.aload_n 0, 1) := by decide +kernel
theorem dL_law_1733 : decode mL_law.2.1 1733 = .ok (.iload 4, 2) := by decide +kernel
theorem dL_law_1735 : decode mL_law.2.1 1735 = .ok (.iconst 1, 1) := by decide +kernel
theorem dL_law_1736 : decode mL_law.2.1 1736 = .ok (.iadd, 1) := by decide +kernel
theorem dL_law_1737 : decode mL_law.2.1 1737 = .ok (.iaload, 1) := by decide +kernel
theorem dL_law_1738 : decode mL_law.2.1 1738 = .ok (.aload_n 0, 1) := by decide +kernel
theorem dL_law_1739 : decode mL_law.2.1 1739 = .ok (.iload 4, 2) := by decide +kernel
theorem dL_law_1741 : decode mL_law.2.1 1741 = .ok (.iconst 2, 1) := by decide +kernel
theorem dL_law_1742 : decode mL_law.2.1 1742 = .ok (.iadd, 1) := by decide +kernel
theorem dL_law_1743 : decode mL_law.2.1 1743 = .ok (.iaload, 1) := by decide +kernel
theorem dL_law_1744 : decode mL_law.2.1 1744 = .ok (.aload_n 0, 1) := by decide +kernel
theorem dL_law_1745 : decode mL_law.2.1 1745 = .ok (.iload 4, 2) := by decide +kernel
theorem dL_law_1747 : decode mL_law.2.1 1747 = .ok (.iconst 3, 1) := by decide +kernel
theorem dL_law_1748 : decode mL_law.2.1 1748 = .ok (.iadd, 1) := by decide +kernel
theorem dL_law_1749 : decode mL_law.2.1 1749 = .ok (.iaload, 1) := by decide +kernel
theorem dL_law_1750 : decode mL_law.2.1 1750 = .ok (.aload_n 0, 1) := by decide +kernel
theorem dL_law_1751 : decode mL_law.2.1 1751 = .ok (.iload 4, 2) := by decide +kernel
theorem dL_law_1753 : decode mL_law.2.1 1753 = .ok (.iconst 4, 1) := by decide +kernel
theorem dL_law_1754 : decode mL_law.2.1 1754 = .ok (.iadd, 1) := by decide +kernel
theorem dL_law_1755 : decode mL_law.2.1 1755 = .ok (.iaload, 1) := by decide +kernel
theorem dL_law_1756 : decode mL_law.2.1 1756 = .ok (.i2l, 1) := by decide +kernel
theorem dL_law_1757 : decode mL_law.2.1 1757 = .ok (.bipush 32, 2) := by decide +kernel
theorem dL_law_1759 : decode mL_law.2.1 1759 = .ok (.lshl, 1) := by decide +kernel
theorem dL_law_1760 : decode mL_law.2.1 1760 = .ok (.aload_n 0, 1) := by decide +kernel
theorem dL_law_1761 : decode mL_law.2.1 1761 = .ok (.iload 4, 2) := by decide +kernel
theorem dL_law_1763 : decode mL_law.2.1 1763 = .ok (.iconst 5, 1) := by decide +kernel
theorem dL_law_1764 : decode mL_law.2.1 1764 = .ok (.iadd, 1) := by decide +kernel
theorem dL_law_1765 : decode mL_law.2.1 1765 = .ok (.iaload, 1) := by decide +kernel
theorem dL_law_1766 : decode mL_law.2.1 1766 = .ok (.i2l, 1) := by decide +kernel
theorem dL_law_1767 : decode mL_law.2.1 1767 = .ok (.ldc2_w 52, 3) := by decide +kernel
theorem dL_law_1770 : decode mL_law.2.1 1770 = .ok (.land, 1) := by decide +kernel
theorem dL_law_1771 : decode mL_law.2.1 1771 = .ok (.lor, 1) := by decide +kernel
theorem dL_law_1772 : decode mL_law.2.1 1772 = .ok (.aload_n 0, 1) := by decide +kernel
theorem dL_law_1773 : decode mL_law.2.1 1773 = .ok (.iload 4, 2) := by decide +kernel
theorem dL_law_1775 : decode mL_law.2.1 1775 = .ok (.bipush 6, 2) := by decide +kernel
theorem dL_law_1777 : decode mL_law.2.1 1777 = .ok (.iadd, 1) := by decide +kernel
theorem dL_law_1778 : decode mL_law.2.1 1778 = .ok (.iaload, 1) := by decide +kernel
theorem dL_law_1779 : decode mL_law.2.1 1779 = .ok (.aload_n 0, 1) := by decide +kernel
theorem dL_law_1780 : decode mL_law.2.1 1780 = .ok (.iload 4, 2) := by decide +kernel
theorem dL_law_1782 : decode mL_law.2.1 1782 = .ok (.bipush 7, 2) := by decide +kernel
theorem dL_law_1784 : decode mL_law.2.1 1784 = .ok (.iadd, 1) := by decide +kernel
theorem dL_law_1785 : decode mL_law.2.1 1785 = .ok (.iaload, 1) := by decide +kernel
theorem dL_law_1786 : decode mL_law.2.1 1786 = .ok (.invokevirtual 152, 3) := by decide +kernel
theorem dL_law_1789 : decode mL_law.2.1 1789 = .ok (.if_icmp .eq 968, 3) := by decide +kernel
theorem dL_law_1792 : decode mL_law.2.1 1792 = .ok (.iconst 0, 1) := by decide +kernel
theorem dL_law_1793 : decode mL_law.2.1 1793 = .ok (.ireturn, 1) := by decide +kernel
theorem dL_law_1794 : decode mL_law.2.1 1794 = .ok (.aload_n 1, 1) := by decide +kernel
theorem dL_law_1795 : decode mL_law.2.1 1795 = .ok (.aload_n 0, 1) := by decide +kernel
theorem dL_law_1796 : decode mL_law.2.1 1796 = .ok (.iload 4, 2) := by decide +kernel
theorem dL_law_1798 : decode mL_law.2.1 1798 = .ok (.iconst 1, 1) := by decide +kernel
theorem dL_law_1799 : decode mL_law.2.1 1799 = .ok (.iadd, 1) := by decide +kernel
theorem dL_law_1800 : decode mL_law.2.1 1800 = .ok (.iaload, 1) := by decide +kernel
theorem dL_law_1801 : decode mL_law.2.1 1801 = .ok (.aload_n 0, 1) := by decide +kernel
theorem dL_law_1802 : decode mL_law.2.1 1802 = .ok (.iload 4, 2) := by decide +kernel
theorem dL_law_1804 : decode mL_law.2.1 1804 = .ok (.iconst 2, 1) := by decide +kernel
theorem dL_law_1805 : decode mL_law.2.1 1805 = .ok (.iadd, 1) := by decide +kernel
theorem dL_law_1806 : decode mL_law.2.1 1806 = .ok (.iaload, 1) := by decide +kernel
theorem dL_law_1807 : decode mL_law.2.1 1807 = .ok (.aload_n 0, 1) := by decide +kernel
theorem dL_law_1808 : decode mL_law.2.1 1808 = .ok (.iload 4, 2) := by decide +kernel
theorem dL_law_1810 : decode mL_law.2.1 1810 = .ok (.iconst 3, 1) := by decide +kernel
theorem dL_law_1811 : decode mL_law.2.1 1811 = .ok (.iadd, 1) := by decide +kernel
theorem dL_law_1812 : decode mL_law.2.1 1812 = .ok (.iaload, 1) := by decide +kernel
theorem dL_law_1813 : decode mL_law.2.1 1813 = .ok (.i2l, 1) := by decide +kernel
theorem dL_law_1814 : decode mL_law.2.1 1814 = .ok (.bipush 32, 2) := by decide +kernel
theorem dL_law_1816 : decode mL_law.2.1 1816 = .ok (.lshl, 1) := by decide +kernel
theorem dL_law_1817 : decode mL_law.2.1 1817 = .ok (.aload_n 0, 1) := by decide +kernel
theorem dL_law_1818 : decode mL_law.2.1 1818 = .ok (.iload 4, 2) := by decide +kernel
theorem dL_law_1820 : decode mL_law.2.1 1820 = .ok (.iconst 4, 1) := by decide +kernel
theorem dL_law_1821 : decode mL_law.2.1 1821 = .ok (.iadd, 1) := by decide +kernel
theorem dL_law_1822 : decode mL_law.2.1 1822 = .ok (.iaload, 1) := by decide +kernel
theorem dL_law_1823 : decode mL_law.2.1 1823 = .ok (.i2l, 1) := by decide +kernel
theorem dL_law_1824 : decode mL_law.2.1 1824 = .ok (.ldc2_w 52, 3) := by decide +kernel
theorem dL_law_1827 : decode mL_law.2.1 1827 = .ok (.land, 1) := by decide +kernel
theorem dL_law_1828 : decode mL_law.2.1 1828 = .ok (.lor, 1) := by decide +kernel
theorem dL_law_1829 : decode mL_law.2.1 1829 = .ok (.aload_n 0, 1) := by decide +kernel
theorem dL_law_1830 : decode mL_law.2.1 1830 = .ok (.iload 4, 2) := by decide +kernel
theorem dL_law_1832 : decode mL_law.2.1 1832 = .ok (.iconst 5, 1) := by decide +kernel
theorem dL_law_1833 : decode mL_law.2.1 1833 = .ok (.iadd, 1) := by decide +kernel
theorem dL_law_1834 : decode mL_law.2.1 1834 = .ok (.iaload, 1) := by decide +kernel
theorem dL_law_1835 : decode mL_law.2.1 1835 = .ok (.invokevirtual 153, 3) := by decide +kernel
theorem dL_law_1838 : decode mL_law.2.1 1838 = .ok (.aload_n 2, 1) := by decide +kernel
theorem dL_law_1839 : decode mL_law.2.1 1839 = .ok (.aload_n 0, 1) := by decide +kernel
theorem dL_law_1840 : decode mL_law.2.1 1840 = .ok (.iload 4, 2) := by decide +kernel
theorem dL_law_1842 : decode mL_law.2.1 1842 = .ok (.iconst 1, 1) := by decide +kernel
theorem dL_law_1843 : decode mL_law.2.1 1843 = .ok (.iadd, 1) := by decide +kernel
theorem dL_law_1844 : decode mL_law.2.1 1844 = .ok (.iaload, 1) := by decide +kernel
theorem dL_law_1845 : decode mL_law.2.1 1845 = .ok (.aload_n 0, 1) := by decide +kernel
theorem dL_law_1846 : decode mL_law.2.1 1846 = .ok (.iload 4, 2) := by decide +kernel
theorem dL_law_1848 : decode mL_law.2.1 1848 = .ok (.iconst 2, 1) := by decide +kernel
theorem dL_law_1849 : decode mL_law.2.1 1849 = .ok (.iadd, 1) := by decide +kernel
theorem dL_law_1850 : decode mL_law.2.1 1850 = .ok (.iaload, 1) := by decide +kernel
theorem dL_law_1851 : decode mL_law.2.1 1851 = .ok (.aload_n 0, 1) := by decide +kernel
theorem dL_law_1852 : decode mL_law.2.1 1852 = .ok (.iload 4, 2) := by decide +kernel
theorem dL_law_1854 : decode mL_law.2.1 1854 = .ok (.iconst 3, 1) := by decide +kernel
theorem dL_law_1855 : decode mL_law.2.1 1855 = .ok (.iadd, 1) := by decide +kernel
theorem dL_law_1856 : decode mL_law.2.1 1856 = .ok (.iaload, 1) := by decide +kernel
theorem dL_law_1857 : decode mL_law.2.1 1857 = .ok (.i2l, 1) := by decide +kernel
theorem dL_law_1858 : decode mL_law.2.1 1858 = .ok (.bipush 32, 2) := by decide +kernel
theorem dL_law_1860 : decode mL_law.2.1 1860 = .ok (.lshl, 1) := by decide +kernel
theorem dL_law_1861 : decode mL_law.2.1 1861 = .ok (.aload_n 0, 1) := by decide +kernel
theorem dL_law_1862 : decode mL_law.2.1 1862 = .ok (.iload 4, 2) := by decide +kernel
theorem dL_law_1864 : decode mL_law.2.1 1864 = .ok (.iconst 4, 1) := by decide +kernel
theorem dL_law_1865 : decode mL_law.2.1 1865 = .ok (.iadd, 1) := by decide +kernel
theorem dL_law_1866 : decode mL_law.2.1 1866 = .ok (.iaload, 1) := by decide +kernel
theorem dL_law_1867 : decode mL_law.2.1 1867 = .ok (.i2l, 1) := by decide +kernel
theorem dL_law_1868 : decode mL_law.2.1 1868 = .ok (.ldc2_w 52, 3) := by decide +kernel
theorem dL_law_1871 : decode mL_law.2.1 1871 = .ok (.land, 1) := by decide +kernel
theorem dL_law_1872 : decode mL_law.2.1 1872 = .ok (.lor, 1) := by decide +kernel
theorem dL_law_1873 : decode mL_law.2.1 1873 = .ok (.aload_n 0, 1) := by decide +kernel
theorem dL_law_1874 : decode mL_law.2.1 1874 = .ok (.iload 4, 2) := by decide +kernel
theorem dL_law_1876 : decode mL_law.2.1 1876 = .ok (.iconst 5, 1) := by decide +kernel
theorem dL_law_1877 : decode mL_law.2.1 1877 = .ok (.iadd, 1) := by decide +kernel
theorem dL_law_1878 : decode mL_law.2.1 1878 = .ok (.iaload, 1) := by decide +kernel
theorem dL_law_1879 : decode mL_law.2.1 1879 = .ok (.invokevirtual 157, 3) := by decide +kernel
theorem dL_law_1882 : decode mL_law.2.1 1882 = .ok (.if_icmp .eq 875, 3) := by decide +kernel
theorem dL_law_1885 : decode mL_law.2.1 1885 = .ok (.iconst 0, 1) := by decide +kernel
theorem dL_law_1886 : decode mL_law.2.1 1886 = .ok (.ireturn, 1) := by decide +kernel
theorem dL_law_1887 : decode mL_law.2.1 1887 = .ok (.aload_n 1, 1) := by decide +kernel
theorem dL_law_1888 : decode mL_law.2.1 1888 = .ok (.aload_n 0, 1) := by decide +kernel
theorem dL_law_1889 : decode mL_law.2.1 1889 = .ok (.iload 4, 2) := by decide +kernel
theorem dL_law_1891 : decode mL_law.2.1 1891 = .ok (.iconst 1, 1) := by decide +kernel
theorem dL_law_1892 : decode mL_law.2.1 1892 = .ok (.iadd, 1) := by decide +kernel
theorem dL_law_1893 : decode mL_law.2.1 1893 = .ok (.iaload, 1) := by decide +kernel
theorem dL_law_1894 : decode mL_law.2.1 1894 = .ok (.invokevirtual 158, 3) := by decide +kernel
theorem dL_law_1897 : decode mL_law.2.1 1897 = .ok (.aload_n 2, 1) := by decide +kernel
theorem dL_law_1898 : decode mL_law.2.1 1898 = .ok (.aload_n 0, 1) := by decide +kernel
theorem dL_law_1899 : decode mL_law.2.1 1899 = .ok (.iload 4, 2) := by decide +kernel
theorem dL_law_1901 : decode mL_law.2.1 1901 = .ok (.iconst 1, 1) := by decide +kernel
theorem dL_law_1902 : decode mL_law.2.1 1902 = .ok (.iadd, 1) := by decide +kernel
theorem dL_law_1903 : decode mL_law.2.1 1903 = .ok (.iaload, 1) := by decide +kernel
theorem dL_law_1904 : decode mL_law.2.1 1904 = .ok (.invokevirtual 161, 3) := by decide +kernel
theorem dL_law_1907 : decode mL_law.2.1 1907 = .ok (.if_icmp .eq 850, 3) := by decide +kernel
theorem dL_law_1910 : decode mL_law.2.1 1910 = .ok (.iconst 0, 1) := by decide +kernel
theorem dL_law_1911 : decode mL_law.2.1 1911 = .ok (.ireturn, 1) := by decide +kernel
theorem dL_law_1912 : decode mL_law.2.1 1912 = .ok (.aload_n 1, 1) := by decide +kernel
theorem dL_law_1913 : decode mL_law.2.1 1913 = .ok (.aload_n 0, 1) := by decide +kernel
theorem dL_law_1914 : decode mL_law.2.1 1914 = .ok (.iload 4, 2) := by decide +kernel
theorem dL_law_1916 : decode mL_law.2.1 1916 = .ok (.iconst 1, 1) := by decide +kernel
theorem dL_law_1917 : decode mL_law.2.1 1917 = .ok (.iadd, 1) := by decide +kernel
theorem dL_law_1918 : decode mL_law.2.1 1918 = .ok (.iaload, 1) := by decide +kernel
theorem dL_law_1919 : decode mL_law.2.1 1919 = .ok (.invokevirtual 162, 3) := by decide +kernel
theorem dL_law_1922 : decode mL_law.2.1 1922 = .ok (.aload_n 2, 1) := by decide +kernel
theorem dL_law_1923 : decode mL_law.2.1 1923 = .ok (.aload_n 0, 1) := by decide +kernel
theorem dL_law_1924 : decode mL_law.2.1 1924 = .ok (.iload 4, 2) := by decide +kernel
theorem dL_law_1926 : decode mL_law.2.1 1926 = .ok (.iconst 1, 1) := by decide +kernel
theorem dL_law_1927 : decode mL_law.2.1 1927 = .ok (.iadd, 1) := by decide +kernel
theorem dL_law_1928 : decode mL_law.2.1 1928 = .ok (.iaload, 1) := by decide +kernel
theorem dL_law_1929 : decode mL_law.2.1 1929 = .ok (.invokevirtual 165, 3) := by decide +kernel
theorem dL_law_1932 : decode mL_law.2.1 1932 = .ok (.if_icmp .eq 825, 3) := by decide +kernel
theorem dL_law_1935 : decode mL_law.2.1 1935 = .ok (.iconst 0, 1) := by decide +kernel
theorem dL_law_1936 : decode mL_law.2.1 1936 = .ok (.ireturn, 1) := by decide +kernel
theorem dL_law_1937 : decode mL_law.2.1 1937 = .ok (.aload_n 1, 1) := by decide +kernel
theorem dL_law_1938 : decode mL_law.2.1 1938 = .ok (.aload_n 0, 1) := by decide +kernel
theorem dL_law_1939 : decode mL_law.2.1 1939 = .ok (.iload 4, 2) := by decide +kernel
theorem dL_law_1941 : decode mL_law.2.1 1941 = .ok (.iconst 1, 1) := by decide +kernel
theorem dL_law_1942 : decode mL_law.2.1 1942 = .ok (.iadd, 1) := by decide +kernel
theorem dL_law_1943 : decode mL_law.2.1 1943 = .ok (.iaload, 1) := by decide +kernel
theorem dL_law_1944 : decode mL_law.2.1 1944 = .ok (.aload_n 0, 1) := by decide +kernel
theorem dL_law_1945 : decode mL_law.2.1 1945 = .ok (.iload 4, 2) := by decide +kernel
theorem dL_law_1947 : decode mL_law.2.1 1947 = .ok (.iconst 2, 1) := by decide +kernel
theorem dL_law_1948 : decode mL_law.2.1 1948 = .ok (.iadd, 1) := by decide +kernel
theorem dL_law_1949 : decode mL_law.2.1 1949 = .ok (.iaload, 1) := by decide +kernel
theorem dL_law_1950 : decode mL_law.2.1 1950 = .ok (.aload_n 0, 1) := by decide +kernel
theorem dL_law_1951 : decode mL_law.2.1 1951 = .ok (.iload 4, 2) := by decide +kernel
theorem dL_law_1953 : decode mL_law.2.1 1953 = .ok (.iconst 3, 1) := by decide +kernel
theorem dL_law_1954 : decode mL_law.2.1 1954 = .ok (.iadd, 1) := by decide +kernel
theorem dL_law_1955 : decode mL_law.2.1 1955 = .ok (.iaload, 1) := by decide +kernel
theorem dL_law_1956 : decode mL_law.2.1 1956 = .ok (.i2l, 1) := by decide +kernel
theorem dL_law_1957 : decode mL_law.2.1 1957 = .ok (.bipush 32, 2) := by decide +kernel
theorem dL_law_1959 : decode mL_law.2.1 1959 = .ok (.lshl, 1) := by decide +kernel
theorem dL_law_1960 : decode mL_law.2.1 1960 = .ok (.aload_n 0, 1) := by decide +kernel
theorem dL_law_1961 : decode mL_law.2.1 1961 = .ok (.iload 4, 2) := by decide +kernel
theorem dL_law_1963 : decode mL_law.2.1 1963 = .ok (.iconst 4, 1) := by decide +kernel
theorem dL_law_1964 : decode mL_law.2.1 1964 = .ok (.iadd, 1) := by decide +kernel
theorem dL_law_1965 : decode mL_law.2.1 1965 = .ok (.iaload, 1) := by decide +kernel
theorem dL_law_1966 : decode mL_law.2.1 1966 = .ok (.i2l, 1) := by decide +kernel
theorem dL_law_1967 : decode mL_law.2.1 1967 = .ok (.ldc2_w 52, 3) := by decide +kernel
theorem dL_law_1970 : decode mL_law.2.1 1970 = .ok (.land, 1) := by decide +kernel
theorem dL_law_1971 : decode mL_law.2.1 1971 = .ok (.lor, 1) := by decide +kernel
theorem dL_law_1972 : decode mL_law.2.1 1972 = .ok (.invokevirtual 166, 3) := by decide +kernel
theorem dL_law_1975 : decode mL_law.2.1 1975 = .ok (.aload_n 2, 1) := by decide +kernel
theorem dL_law_1976 : decode mL_law.2.1 1976 = .ok (.aload_n 0, 1) := by decide +kernel
theorem dL_law_1977 : decode mL_law.2.1 1977 = .ok (.iload 4, 2) := by decide +kernel
theorem dL_law_1979 : decode mL_law.2.1 1979 = .ok (.iconst 1, 1) := by decide +kernel
theorem dL_law_1980 : decode mL_law.2.1 1980 = .ok (.iadd, 1) := by decide +kernel
theorem dL_law_1981 : decode mL_law.2.1 1981 = .ok (.iaload, 1) := by decide +kernel
theorem dL_law_1982 : decode mL_law.2.1 1982 = .ok (.aload_n 0, 1) := by decide +kernel
theorem dL_law_1983 : decode mL_law.2.1 1983 = .ok (.iload 4, 2) := by decide +kernel
theorem dL_law_1985 : decode mL_law.2.1 1985 = .ok (.iconst 2, 1) := by decide +kernel
theorem dL_law_1986 : decode mL_law.2.1 1986 = .ok (.iadd, 1) := by decide +kernel
theorem dL_law_1987 : decode mL_law.2.1 1987 = .ok (.iaload, 1) := by decide +kernel
theorem dL_law_1988 : decode mL_law.2.1 1988 = .ok (.aload_n 0, 1) := by decide +kernel
theorem dL_law_1989 : decode mL_law.2.1 1989 = .ok (.iload 4, 2) := by decide +kernel
theorem dL_law_1991 : decode mL_law.2.1 1991 = .ok (.iconst 3, 1) := by decide +kernel
theorem dL_law_1992 : decode mL_law.2.1 1992 = .ok (.iadd, 1) := by decide +kernel
theorem dL_law_1993 : decode mL_law.2.1 1993 = .ok (.iaload, 1) := by decide +kernel
theorem dL_law_1994 : decode mL_law.2.1 1994 = .ok (.i2l, 1) := by decide +kernel
theorem dL_law_1995 : decode mL_law.2.1 1995 = .ok (.bipush 32, 2) := by decide +kernel
theorem dL_law_1997 : decode mL_law.2.1 1997 = .ok (.lshl, 1) := by decide +kernel
theorem dL_law_1998 : decode mL_law.2.1 1998 = .ok (.aload_n 0, 1) := by decide +kernel
theorem dL_law_1999 : decode mL_law.2.1 1999 = .ok (.iload 4, 2) := by decide +kernel
theorem dL_law_2001 : decode mL_law.2.1 2001 = .ok (.iconst 4, 1) := by decide +kernel
theorem dL_law_2002 : decode mL_law.2.1 2002 = .ok (.iadd, 1) := by decide +kernel
theorem dL_law_2003 : decode mL_law.2.1 2003 = .ok (.iaload, 1) := by decide +kernel
theorem dL_law_2004 : decode mL_law.2.1 2004 = .ok (.i2l, 1) := by decide +kernel
theorem dL_law_2005 : decode mL_law.2.1 2005 = .ok (.ldc2_w 52, 3) := by decide +kernel
theorem dL_law_2008 : decode mL_law.2.1 2008 = .ok (.land, 1) := by decide +kernel
theorem dL_law_2009 : decode mL_law.2.1 2009 = .ok (.lor, 1) := by decide +kernel
theorem dL_law_2010 : decode mL_law.2.1 2010 = .ok (.invokevirtual 169, 3) := by decide +kernel
theorem dL_law_2013 : decode mL_law.2.1 2013 = .ok (.if_icmp .eq 744, 3) := by decide +kernel
theorem dL_law_2016 : decode mL_law.2.1 2016 = .ok (.iconst 0, 1) := by decide +kernel
theorem dL_law_2017 : decode mL_law.2.1 2017 = .ok (.ireturn, 1) := by decide +kernel
theorem dL_law_2018 : decode mL_law.2.1 2018 = .ok (.aload_n 1, 1) := by decide +kernel
theorem dL_law_2019 : decode mL_law.2.1 2019 = .ok (.aload_n 0, 1) := by decide +kernel
theorem dL_law_2020 : decode mL_law.2.1 2020 = .ok (.iload 4, 2) := by decide +kernel
theorem dL_law_2022 : decode mL_law.2.1 2022 = .ok (.iconst 1, 1) := by decide +kernel
theorem dL_law_2023 : decode mL_law.2.1 2023 = .ok (.iadd, 1) := by decide +kernel
theorem dL_law_2024 : decode mL_law.2.1 2024 = .ok (.iaload, 1) := by decide +kernel
theorem dL_law_2025 : decode mL_law.2.1 2025 = .ok (.aload_n 0, 1) := by decide +kernel
theorem dL_law_2026 : decode mL_law.2.1 2026 = .ok (.iload 4, 2) := by decide +kernel
theorem dL_law_2028 : decode mL_law.2.1 2028 = .ok (.iconst 2, 1) := by decide +kernel
theorem dL_law_2029 : decode mL_law.2.1 2029 = .ok (.iadd, 1) := by decide +kernel
theorem dL_law_2030 : decode mL_law.2.1 2030 = .ok (.iaload, 1) := by decide +kernel
theorem dL_law_2031 : decode mL_law.2.1 2031 = .ok (.aload_n 0, 1) := by decide +kernel
theorem dL_law_2032 : decode mL_law.2.1 2032 = .ok (.iload 4, 2) := by decide +kernel
theorem dL_law_2034 : decode mL_law.2.1 2034 = .ok (.iconst 3, 1) := by decide +kernel
theorem dL_law_2035 : decode mL_law.2.1 2035 = .ok (.iadd, 1) := by decide +kernel
theorem dL_law_2036 : decode mL_law.2.1 2036 = .ok (.iaload, 1) := by decide +kernel
theorem dL_law_2037 : decode mL_law.2.1 2037 = .ok (.aload_n 0, 1) := by decide +kernel
theorem dL_law_2038 : decode mL_law.2.1 2038 = .ok (.iload 4, 2) := by decide +kernel
theorem dL_law_2040 : decode mL_law.2.1 2040 = .ok (.iconst 4, 1) := by decide +kernel
theorem dL_law_2041 : decode mL_law.2.1 2041 = .ok (.iadd, 1) := by decide +kernel
theorem dL_law_2042 : decode mL_law.2.1 2042 = .ok (.iaload, 1) := by decide +kernel
theorem dL_law_2043 : decode mL_law.2.1 2043 = .ok (.i2l, 1) := by decide +kernel
theorem dL_law_2044 : decode mL_law.2.1 2044 = .ok (.bipush 32, 2) := by decide +kernel
theorem dL_law_2046 : decode mL_law.2.1 2046 = .ok (.lshl, 1) := by decide +kernel
theorem dL_law_2047 : decode mL_law.2.1 2047 = .ok (.aload_n 0, 1) := by decide +kernel
theorem dL_law_2048 : decode mL_law.2.1 2048 = .ok (.iload 4, 2) := by decide +kernel
theorem dL_law_2050 : decode mL_law.2.1 2050 = .ok (.iconst 5, 1) := by decide +kernel
theorem dL_law_2051 : decode mL_law.2.1 2051 = .ok (.iadd, 1) := by decide +kernel
theorem dL_law_2052 : decode mL_law.2.1 2052 = .ok (.iaload, 1) := by decide +kernel
theorem dL_law_2053 : decode mL_law.2.1 2053 = .ok (.i2l, 1) := by decide +kernel
theorem dL_law_2054 : decode mL_law.2.1 2054 = .ok (.ldc2_w 52, 3) := by decide +kernel
theorem dL_law_2057 : decode mL_law.2.1 2057 = .ok (.land, 1) := by decide +kernel
theorem dL_law_2058 : decode mL_law.2.1 2058 = .ok (.lor, 1) := by decide +kernel
theorem dL_law_2059 : decode mL_law.2.1 2059 = .ok (.aload_n 0, 1) := by decide +kernel
theorem dL_law_2060 : decode mL_law.2.1 2060 = .ok (.iload 4, 2) := by decide +kernel
theorem dL_law_2062 : decode mL_law.2.1 2062 = .ok (.bipush 6, 2) := by decide +kernel
theorem dL_law_2064 : decode mL_law.2.1 2064 = .ok (.iadd, 1) := by decide +kernel
theorem dL_law_2065 : decode mL_law.2.1 2065 = .ok (.iaload, 1) := by decide +kernel
theorem dL_law_2066 : decode mL_law.2.1 2066 = .ok (.aload_n 0, 1) := by decide +kernel
theorem dL_law_2067 : decode mL_law.2.1 2067 = .ok (.iload 4, 2) := by decide +kernel
theorem dL_law_2069 : decode mL_law.2.1 2069 = .ok (.bipush 7, 2) := by decide +kernel
theorem dL_law_2071 : decode mL_law.2.1 2071 = .ok (.iadd, 1) := by decide +kernel
theorem dL_law_2072 : decode mL_law.2.1 2072 = .ok (.iaload, 1) := by decide +kernel
theorem dL_law_2073 : decode mL_law.2.1 2073 = .ok (.invokevirtual 170, 3) := by decide +kernel
theorem dL_law_2076 : decode mL_law.2.1 2076 = .ok (.aload_n 2, 1) := by decide +kernel
theorem dL_law_2077 : decode mL_law.2.1 2077 = .ok (.aload_n 0, 1) := by decide +kernel
theorem dL_law_2078 : decode mL_law.2.1 2078 = .ok (.iload 4, 2) := by decide +kernel
theorem dL_law_2080 : decode mL_law.2.1 2080 = .ok (.iconst 1, 1) := by decide +kernel
theorem dL_law_2081 : decode mL_law.2.1 2081 = .ok (.iadd, 1) := by decide +kernel
theorem dL_law_2082 : decode mL_law.2.1 2082 = .ok (.iaload, 1) := by decide +kernel
theorem dL_law_2083 : decode mL_law.2.1 2083 = .ok (.aload_n 0, 1) := by decide +kernel
theorem dL_law_2084 : decode mL_law.2.1 2084 = .ok (.iload 4, 2) := by decide +kernel
theorem dL_law_2086 : decode mL_law.2.1 2086 = .ok (.iconst 2, 1) := by decide +kernel
theorem dL_law_2087 : decode mL_law.2.1 2087 = .ok (.iadd, 1) := by decide +kernel
theorem dL_law_2088 : decode mL_law.2.1 2088 = .ok (.iaload, 1) := by decide +kernel
theorem dL_law_2089 : decode mL_law.2.1 2089 = .ok (.aload_n 0, 1) := by decide +kernel
theorem dL_law_2090 : decode mL_law.2.1 2090 = .ok (.iload 4, 2) := by decide +kernel
theorem dL_law_2092 : decode mL_law.2.1 2092 = .ok (.iconst 3, 1) := by decide +kernel
theorem dL_law_2093 : decode mL_law.2.1 2093 = .ok (.iadd, 1) := by decide +kernel
theorem dL_law_2094 : decode mL_law.2.1 2094 = .ok (.iaload, 1) := by decide +kernel
theorem dL_law_2095 : decode mL_law.2.1 2095 = .ok (.aload_n 0, 1) := by decide +kernel
theorem dL_law_2096 : decode mL_law.2.1 2096 = .ok (.iload 4, 2) := by decide +kernel
theorem dL_law_2098 : decode mL_law.2.1 2098 = .ok (.iconst 4, 1) := by decide +kernel
theorem dL_law_2099 : decode mL_law.2.1 2099 = .ok (.iadd, 1) := by decide +kernel
theorem dL_law_2100 : decode mL_law.2.1 2100 = .ok (.iaload, 1) := by decide +kernel
theorem dL_law_2101 : decode mL_law.2.1 2101 = .ok (.i2l, 1) := by decide +kernel
theorem dL_law_2102 : decode mL_law.2.1 2102 = .ok (.bipush 32, 2) := by decide +kernel
theorem dL_law_2104 : decode mL_law.2.1 2104 = .ok (.lshl, 1) := by decide +kernel
theorem dL_law_2105 : decode mL_law.2.1 2105 = .ok (.aload_n 0, 1) := by decide +kernel
theorem dL_law_2106 : decode mL_law.2.1 2106 = .ok (.iload 4, 2) := by decide +kernel
theorem dL_law_2108 : decode mL_law.2.1 2108 = .ok (.iconst 5, 1) := by decide +kernel
theorem dL_law_2109 : decode mL_law.2.1 2109 = .ok (.iadd, 1) := by decide +kernel
theorem dL_law_2110 : decode mL_law.2.1 2110 = .ok (.iaload, 1) := by decide +kernel
theorem dL_law_2111 : decode mL_law.2.1 2111 = .ok (.i2l, 1) := by decide +kernel
theorem dL_law_2112 : decode mL_law.2.1 2112 = .ok (.ldc2_w 52, 3) := by decide +kernel
theorem dL_law_2115 : decode mL_law.2.1 2115 = .ok (.land, 1) := by decide +kernel
theorem dL_law_2116 : decode mL_law.2.1 2116 = .ok (.lor, 1) := by decide +kernel
theorem dL_law_2117 : decode mL_law.2.1 2117 = .ok (.aload_n 0, 1) := by decide +kernel
theorem dL_law_2118 : decode mL_law.2.1 2118 = .ok (.iload 4, 2) := by decide +kernel
theorem dL_law_2120 : decode mL_law.2.1 2120 = .ok (.bipush 6, 2) := by decide +kernel
theorem dL_law_2122 : decode mL_law.2.1 2122 = .ok (.iadd, 1) := by decide +kernel
theorem dL_law_2123 : decode mL_law.2.1 2123 = .ok (.iaload, 1) := by decide +kernel
theorem dL_law_2124 : decode mL_law.2.1 2124 = .ok (.aload_n 0, 1) := by decide +kernel
theorem dL_law_2125 : decode mL_law.2.1 2125 = .ok (.iload 4, 2) := by decide +kernel
theorem dL_law_2127 : decode mL_law.2.1 2127 = .ok (.bipush 7, 2) := by decide +kernel
theorem dL_law_2129 : decode mL_law.2.1 2129 = .ok (.iadd, 1) := by decide +kernel
theorem dL_law_2130 : decode mL_law.2.1 2130 = .ok (.iaload, 1) := by decide +kernel
theorem dL_law_2131 : decode mL_law.2.1 2131 = .ok (.invokevirtual 173, 3) := by decide +kernel
theorem dL_law_2134 : decode mL_law.2.1 2134 = .ok (.if_icmp .eq 623, 3) := by decide +kernel
theorem dL_law_2137 : decode mL_law.2.1 2137 = .ok (.iconst 0, 1) := by decide +kernel
theorem dL_law_2138 : decode mL_law.2.1 2138 = .ok (.ireturn, 1) := by decide +kernel
theorem dL_law_2139 : decode mL_law.2.1 2139 = .ok (.aload_n 1, 1) := by decide +kernel
theorem dL_law_2140 : decode mL_law.2.1 2140 = .ok (.aload_n 0, 1) := by decide +kernel
theorem dL_law_2141 : decode mL_law.2.1 2141 = .ok (.iload 4, 2) := by decide +kernel
theorem dL_law_2143 : decode mL_law.2.1 2143 = .ok (.iconst 1, 1) := by decide +kernel
theorem dL_law_2144 : decode mL_law.2.1 2144 = .ok (.iadd, 1) := by decide +kernel
theorem dL_law_2145 : decode mL_law.2.1 2145 = .ok (.iaload, 1) := by decide +kernel
theorem dL_law_2146 : decode mL_law.2.1 2146 = .ok (.aload_n 0, 1) := by decide +kernel
theorem dL_law_2147 : decode mL_law.2.1 2147 = .ok (.iload 4, 2) := by decide +kernel
theorem dL_law_2149 : decode mL_law.2.1 2149 = .ok (.iconst 2, 1) := by decide +kernel
theorem dL_law_2150 : decode mL_law.2.1 2150 = .ok (.iadd, 1) := by decide +kernel
theorem dL_law_2151 : decode mL_law.2.1 2151 = .ok (.iaload, 1) := by decide +kernel
theorem dL_law_2152 : decode mL_law.2.1 2152 = .ok (.aload_n 0, 1) := by decide +kernel
theorem dL_law_2153 : decode mL_law.2.1 2153 = .ok (.iload 4, 2) := by decide +kernel
theorem dL_law_2155 : decode mL_law.2.1 2155 = .ok (.iconst 3, 1) := by decide +kernel
theorem dL_law_2156 : decode mL_law.2.1 2156 = .ok (.iadd, 1) := by decide +kernel
theorem dL_law_2157 : decode mL_law.2.1 2157 = .ok (.iaload, 1) := by decide +kernel
theorem dL_law_2158 : decode mL_law.2.1 2158 = .ok (.aload_n 0, 1) := by decide +kernel
theorem dL_law_2159 : decode mL_law.2.1 2159 = .ok (.iload 4, 2) := by decide +kernel
theorem dL_law_2161 : decode mL_law.2.1 2161 = .ok (.iconst 4, 1) := by decide +kernel
theorem dL_law_2162 : decode mL_law.2.1 2162 = .ok (.iadd, 1) := by decide +kernel
theorem dL_law_2163 : decode mL_law.2.1 2163 = .ok (.iaload, 1) := by decide +kernel
theorem dL_law_2164 : decode mL_law.2.1 2164 = .ok (.aload_n 0, 1) := by decide +kernel
theorem dL_law_2165 : decode mL_law.2.1 2165 = .ok (.iload 4, 2) := by decide +kernel
theorem dL_law_2167 : decode mL_law.2.1 2167 = .ok (.iconst 5, 1) := by decide +kernel
theorem dL_law_2168 : decode mL_law.2.1 2168 = .ok (.iadd, 1) := by decide +kernel
theorem dL_law_2169 : decode mL_law.2.1 2169 = .ok (.iaload, 1) := by decide +kernel
theorem dL_law_2170 : decode mL_law.2.1 2170 = .ok (.aload_n 0, 1) := by decide +kernel
theorem dL_law_2171 : decode mL_law.2.1 2171 = .ok (.iload 4, 2) := by decide +kernel
theorem dL_law_2173 : decode mL_law.2.1 2173 = .ok (.bipush 6, 2) := by decide +kernel
theorem dL_law_2175 : decode mL_law.2.1 2175 = .ok (.iadd, 1) := by decide +kernel
theorem dL_law_2176 : decode mL_law.2.1 2176 = .ok (.iaload, 1) := by decide +kernel
theorem dL_law_2177 : decode mL_law.2.1 2177 = .ok (.aload_n 0, 1) := by decide +kernel
theorem dL_law_2178 : decode mL_law.2.1 2178 = .ok (.iload 4, 2) := by decide +kernel
theorem dL_law_2180 : decode mL_law.2.1 2180 = .ok (.bipush 7, 2) := by decide +kernel
theorem dL_law_2182 : decode mL_law.2.1 2182 = .ok (.iadd, 1) := by decide +kernel
theorem dL_law_2183 : decode mL_law.2.1 2183 = .ok (.iaload, 1) := by decide +kernel
theorem dL_law_2184 : decode mL_law.2.1 2184 = .ok (.i2l, 1) := by decide +kernel
theorem dL_law_2185 : decode mL_law.2.1 2185 = .ok (.bipush 32, 2) := by decide +kernel
theorem dL_law_2187 : decode mL_law.2.1 2187 = .ok (.lshl, 1) := by decide +kernel
theorem dL_law_2188 : decode mL_law.2.1 2188 = .ok (.aload_n 0, 1) := by decide +kernel
theorem dL_law_2189 : decode mL_law.2.1 2189 = .ok (.iload 4, 2) := by decide +kernel
theorem dL_law_2191 : decode mL_law.2.1 2191 = .ok (.bipush 8, 2) := by decide +kernel
theorem dL_law_2193 : decode mL_law.2.1 2193 = .ok (.iadd, 1) := by decide +kernel
theorem dL_law_2194 : decode mL_law.2.1 2194 = .ok (.iaload, 1) := by decide +kernel
theorem dL_law_2195 : decode mL_law.2.1 2195 = .ok (.i2l, 1) := by decide +kernel
theorem dL_law_2196 : decode mL_law.2.1 2196 = .ok (.ldc2_w 52, 3) := by decide +kernel
theorem dL_law_2199 : decode mL_law.2.1 2199 = .ok (.land, 1) := by decide +kernel
theorem dL_law_2200 : decode mL_law.2.1 2200 = .ok (.lor, 1) := by decide +kernel
theorem dL_law_2201 : decode mL_law.2.1 2201 = .ok (.aload_n 0, 1) := by decide +kernel
theorem dL_law_2202 : decode mL_law.2.1 2202 = .ok (.iload 4, 2) := by decide +kernel
theorem dL_law_2204 : decode mL_law.2.1 2204 = .ok (.bipush 9, 2) := by decide +kernel
theorem dL_law_2206 : decode mL_law.2.1 2206 = .ok (.iadd, 1) := by decide +kernel
theorem dL_law_2207 : decode mL_law.2.1 2207 = .ok (.iaload, 1) := by decide +kernel
theorem dL_law_2208 : decode mL_law.2.1 2208 = .ok (.invokevirtual 174, 3) := by decide +kernel
theorem dL_law_2211 : decode mL_law.2.1 2211 = .ok (.aload_n 2, 1) := by decide +kernel
theorem dL_law_2212 : decode mL_law.2.1 2212 = .ok (.aload_n 0, 1) := by decide +kernel
theorem dL_law_2213 : decode mL_law.2.1 2213 = .ok (.iload 4, 2) := by decide +kernel
theorem dL_law_2215 : decode mL_law.2.1 2215 = .ok (.iconst 1, 1) := by decide +kernel
theorem dL_law_2216 : decode mL_law.2.1 2216 = .ok (.iadd, 1) := by decide +kernel
theorem dL_law_2217 : decode mL_law.2.1 2217 = .ok (.iaload, 1) := by decide +kernel
theorem dL_law_2218 : decode mL_law.2.1 2218 = .ok (.aload_n 0, 1) := by decide +kernel
theorem dL_law_2219 : decode mL_law.2.1 2219 = .ok (.iload 4, 2) := by decide +kernel
theorem dL_law_2221 : decode mL_law.2.1 2221 = .ok (.iconst 2, 1) := by decide +kernel
theorem dL_law_2222 : decode mL_law.2.1 2222 = .ok (.iadd, 1) := by decide +kernel
theorem dL_law_2223 : decode mL_law.2.1 2223 = .ok (.iaload, 1) := by decide +kernel
theorem dL_law_2224 : decode mL_law.2.1 2224 = .ok (.aload_n 0, 1) := by decide +kernel
theorem dL_law_2225 : decode mL_law.2.1 2225 = .ok (.iload 4, 2) := by decide +kernel
theorem dL_law_2227 : decode mL_law.2.1 2227 = .ok (.iconst 3, 1) := by decide +kernel
theorem dL_law_2228 : decode mL_law.2.1 2228 = .ok (.iadd, 1) := by decide +kernel
theorem dL_law_2229 : decode mL_law.2.1 2229 = .ok (.iaload, 1) := by decide +kernel
theorem dL_law_2230 : decode mL_law.2.1 2230 = .ok (.aload_n 0, 1) := by decide +kernel
theorem dL_law_2231 : decode mL_law.2.1 2231 = .ok (.iload 4, 2) := by decide +kernel
theorem dL_law_2233 : decode mL_law.2.1 2233 = .ok (.iconst 4, 1) := by decide +kernel
theorem dL_law_2234 : decode mL_law.2.1 2234 = .ok (.iadd, 1) := by decide +kernel
theorem dL_law_2235 : decode mL_law.2.1 2235 = .ok (.iaload, 1) := by decide +kernel
theorem dL_law_2236 : decode mL_law.2.1 2236 = .ok (.aload_n 0, 1) := by decide +kernel
theorem dL_law_2237 : decode mL_law.2.1 2237 = .ok (.iload 4, 2) := by decide +kernel
theorem dL_law_2239 : decode mL_law.2.1 2239 = .ok (.iconst 5, 1) := by decide +kernel
theorem dL_law_2240 : decode mL_law.2.1 2240 = .ok (.iadd, 1) := by decide +kernel
theorem dL_law_2241 : decode mL_law.2.1 2241 = .ok (.iaload, 1) := by decide +kernel
theorem dL_law_2242 : decode mL_law.2.1 2242 = .ok (.aload_n 0, 1) := by decide +kernel
theorem dL_law_2243 : decode mL_law.2.1 2243 = .ok (.iload 4, 2) := by decide +kernel
theorem dL_law_2245 : decode mL_law.2.1 2245 = .ok (.bipush 6, 2) := by decide +kernel
theorem dL_law_2247 : decode mL_law.2.1 2247 = .ok (.iadd, 1) := by decide +kernel
theorem dL_law_2248 : decode mL_law.2.1 2248 = .ok (.iaload, 1) := by decide +kernel
theorem dL_law_2249 : decode mL_law.2.1 2249 = .ok (.aload_n 0, 1) := by decide +kernel
theorem dL_law_2250 : decode mL_law.2.1 2250 = .ok (.iload 4, 2) := by decide +kernel
theorem dL_law_2252 : decode mL_law.2.1 2252 = .ok (.bipush 7, 2) := by decide +kernel
theorem dL_law_2254 : decode mL_law.2.1 2254 = .ok (.iadd, 1) := by decide +kernel
theorem dL_law_2255 : decode mL_law.2.1 2255 = .ok (.iaload, 1) := by decide +kernel
theorem dL_law_2256 : decode mL_law.2.1 2256 = .ok (.i2l, 1) := by decide +kernel
theorem dL_law_2257 : decode mL_law.2.1 2257 = .ok (.bipush 32, 2) := by decide +kernel
theorem dL_law_2259 : decode mL_law.2.1 2259 = .ok (.lshl, 1) := by decide +kernel
theorem dL_law_2260 : decode mL_law.2.1 2260 = .ok (.aload_n 0, 1) := by decide +kernel
theorem dL_law_2261 : decode mL_law.2.1 2261 = .ok (.iload 4, 2) := by decide +kernel
theorem dL_law_2263 : decode mL_law.2.1 2263 = .ok (.bipush 8, 2) := by decide +kernel
theorem dL_law_2265 : decode mL_law.2.1 2265 = .ok (.iadd, 1) := by decide +kernel
theorem dL_law_2266 : decode mL_law.2.1 2266 = .ok (.iaload, 1) := by decide +kernel
theorem dL_law_2267 : decode mL_law.2.1 2267 = .ok (.i2l, 1) := by decide +kernel
theorem dL_law_2268 : decode mL_law.2.1 2268 = .ok (.ldc2_w 52, 3) := by decide +kernel
theorem dL_law_2271 : decode mL_law.2.1 2271 = .ok (.land, 1) := by decide +kernel
theorem dL_law_2272 : decode mL_law.2.1 2272 = .ok (.lor, 1) := by decide +kernel
theorem dL_law_2273 : decode mL_law.2.1 2273 = .ok (.aload_n 0, 1) := by decide +kernel
theorem dL_law_2274 : decode mL_law.2.1 2274 = .ok (.iload 4, 2) := by decide +kernel
theorem dL_law_2276 : decode mL_law.2.1 2276 = .ok (.bipush 9, 2) := by decide +kernel
theorem dL_law_2278 : decode mL_law.2.1 2278 = .ok (.iadd, 1) := by decide +kernel
theorem dL_law_2279 : decode mL_law.2.1 2279 = .ok (.iaload, 1) := by decide +kernel
theorem dL_law_2280 : decode mL_law.2.1 2280 = .ok (.invokevirtual 178, 3) := by decide +kernel
theorem dL_law_2283 : decode mL_law.2.1 2283 = .ok (.if_icmp .eq 474, 3) := by decide +kernel
theorem dL_law_2286 : decode mL_law.2.1 2286 = .ok (.iconst 0, 1) := by decide +kernel
theorem dL_law_2287 : decode mL_law.2.1 2287 = .ok (.ireturn, 1) := by decide +kernel
theorem dL_law_2288 : decode mL_law.2.1 2288 = .ok (.aload_n 1, 1) := by decide +kernel
theorem dL_law_2289 : decode mL_law.2.1 2289 = .ok (.aload_n 0, 1) := by decide +kernel
theorem dL_law_2290 : decode mL_law.2.1 2290 = .ok (.iload 4, 2) := by decide +kernel
theorem dL_law_2292 : decode mL_law.2.1 2292 = .ok (.iconst 1, 1) := by decide +kernel
theorem dL_law_2293 : decode mL_law.2.1 2293 = .ok (.iadd, 1) := by decide +kernel
theorem dL_law_2294 : decode mL_law.2.1 2294 = .ok (.iaload, 1) := by decide +kernel
theorem dL_law_2295 : decode mL_law.2.1 2295 = .ok (.aload_n 0, 1) := by decide +kernel
theorem dL_law_2296 : decode mL_law.2.1 2296 = .ok (.iload 4, 2) := by decide +kernel
theorem dL_law_2298 : decode mL_law.2.1 2298 = .ok (.iconst 2, 1) := by decide +kernel
theorem dL_law_2299 : decode mL_law.2.1 2299 = .ok (.iadd, 1) := by decide +kernel
theorem dL_law_2300 : decode mL_law.2.1 2300 = .ok (.iaload, 1) := by decide +kernel
theorem dL_law_2301 : decode mL_law.2.1 2301 = .ok (.aload_n 0, 1) := by decide +kernel
theorem dL_law_2302 : decode mL_law.2.1 2302 = .ok (.iload 4, 2) := by decide +kernel
theorem dL_law_2304 : decode mL_law.2.1 2304 = .ok (.iconst 3, 1) := by decide +kernel
theorem dL_law_2305 : decode mL_law.2.1 2305 = .ok (.iadd, 1) := by decide +kernel
theorem dL_law_2306 : decode mL_law.2.1 2306 = .ok (.iaload, 1) := by decide +kernel
theorem dL_law_2307 : decode mL_law.2.1 2307 = .ok (.aload_n 0, 1) := by decide +kernel
theorem dL_law_2308 : decode mL_law.2.1 2308 = .ok (.iload 4, 2) := by decide +kernel
theorem dL_law_2310 : decode mL_law.2.1 2310 = .ok (.iconst 4, 1) := by decide +kernel
theorem dL_law_2311 : decode mL_law.2.1 2311 = .ok (.iadd, 1) := by decide +kernel
theorem dL_law_2312 : decode mL_law.2.1 2312 = .ok (.iaload, 1) := by decide +kernel
theorem dL_law_2313 : decode mL_law.2.1 2313 = .ok (.i2l, 1) := by decide +kernel
theorem dL_law_2314 : decode mL_law.2.1 2314 = .ok (.bipush 32, 2) := by decide +kernel
theorem dL_law_2316 : decode mL_law.2.1 2316 = .ok (.lshl, 1) := by decide +kernel
theorem dL_law_2317 : decode mL_law.2.1 2317 = .ok (.aload_n 0, 1) := by decide +kernel
theorem dL_law_2318 : decode mL_law.2.1 2318 = .ok (.iload 4, 2) := by decide +kernel
theorem dL_law_2320 : decode mL_law.2.1 2320 = .ok (.iconst 5, 1) := by decide +kernel
theorem dL_law_2321 : decode mL_law.2.1 2321 = .ok (.iadd, 1) := by decide +kernel
theorem dL_law_2322 : decode mL_law.2.1 2322 = .ok (.iaload, 1) := by decide +kernel
theorem dL_law_2323 : decode mL_law.2.1 2323 = .ok (.i2l, 1) := by decide +kernel
theorem dL_law_2324 : decode mL_law.2.1 2324 = .ok (.ldc2_w 52, 3) := by decide +kernel
theorem dL_law_2327 : decode mL_law.2.1 2327 = .ok (.land, 1) := by decide +kernel
theorem dL_law_2328 : decode mL_law.2.1 2328 = .ok (.lor, 1) := by decide +kernel
theorem dL_law_2329 : decode mL_law.2.1 2329 = .ok (.aload_n 0, 1) := by decide +kernel
theorem dL_law_2330 : decode mL_law.2.1 2330 = .ok (.iload 4, 2) := by decide +kernel
theorem dL_law_2332 : decode mL_law.2.1 2332 = .ok (.bipush 6, 2) := by decide +kernel
theorem dL_law_2334 : decode mL_law.2.1 2334 = .ok (.iadd, 1) := by decide +kernel
theorem dL_law_2335 : decode mL_law.2.1 2335 = .ok (.iaload, 1) := by decide +kernel
theorem dL_law_2336 : decode mL_law.2.1 2336 = .ok (.invokevirtual 179, 3) := by decide +kernel
theorem dL_law_2339 : decode mL_law.2.1 2339 = .ok (.aload_n 2, 1) := by decide +kernel
theorem dL_law_2340 : decode mL_law.2.1 2340 = .ok (.aload_n 0, 1) := by decide +kernel
theorem dL_law_2341 : decode mL_law.2.1 2341 = .ok (.iload 4, 2) := by decide +kernel
theorem dL_law_2343 : decode mL_law.2.1 2343 = .ok (.iconst 1, 1) := by decide +kernel
theorem dL_law_2344 : decode mL_law.2.1 2344 = .ok (.iadd, 1) := by decide +kernel
theorem dL_law_2345 : decode mL_law.2.1 2345 = .ok (.iaload, 1) := by decide +kernel
theorem dL_law_2346 : decode mL_law.2.1 2346 = .ok (.aload_n 0, 1) := by decide +kernel
theorem dL_law_2347 : decode mL_law.2.1 2347 = .ok (.iload 4, 2) := by decide +kernel
theorem dL_law_2349 : decode mL_law.2.1 2349 = .ok (.iconst 2, 1) := by decide +kernel
theorem dL_law_2350 : decode mL_law.2.1 2350 = .ok (.iadd, 1) := by decide +kernel
theorem dL_law_2351 : decode mL_law.2.1 2351 = .ok (.iaload, 1) := by decide +kernel
theorem dL_law_2352 : decode mL_law.2.1 2352 = .ok (.aload_n 0, 1) := by decide +kernel
theorem dL_law_2353 : decode mL_law.2.1 2353 = .ok (.iload 4, 2) := by decide +kernel
theorem dL_law_2355 : decode mL_law.2.1 2355 = .ok (.iconst 3, 1) := by decide +kernel
theorem dL_law_2356 : decode mL_law.2.1 2356 = .ok (.iadd, 1) := by decide +kernel
theorem dL_law_2357 : decode mL_law.2.1 2357 = .ok (.iaload, 1) := by decide +kernel
theorem dL_law_2358 : decode mL_law.2.1 2358 = .ok (.aload_n 0, 1) := by decide +kernel
theorem dL_law_2359 : decode mL_law.2.1 2359 = .ok (.iload 4, 2) := by decide +kernel
theorem dL_law_2361 : decode mL_law.2.1 2361 = .ok (.iconst 4, 1) := by decide +kernel
theorem dL_law_2362 : decode mL_law.2.1 2362 = .ok (.iadd, 1) := by decide +kernel
theorem dL_law_2363 : decode mL_law.2.1 2363 = .ok (.iaload, 1) := by decide +kernel
theorem dL_law_2364 : decode mL_law.2.1 2364 = .ok (.i2l, 1) := by decide +kernel
theorem dL_law_2365 : decode mL_law.2.1 2365 = .ok (.bipush 32, 2) := by decide +kernel
theorem dL_law_2367 : decode mL_law.2.1 2367 = .ok (.lshl, 1) := by decide +kernel
theorem dL_law_2368 : decode mL_law.2.1 2368 = .ok (.aload_n 0, 1) := by decide +kernel
theorem dL_law_2369 : decode mL_law.2.1 2369 = .ok (.iload 4, 2) := by decide +kernel
theorem dL_law_2371 : decode mL_law.2.1 2371 = .ok (.iconst 5, 1) := by decide +kernel
theorem dL_law_2372 : decode mL_law.2.1 2372 = .ok (.iadd, 1) := by decide +kernel
theorem dL_law_2373 : decode mL_law.2.1 2373 = .ok (.iaload, 1) := by decide +kernel
theorem dL_law_2374 : decode mL_law.2.1 2374 = .ok (.i2l, 1) := by decide +kernel
theorem dL_law_2375 : decode mL_law.2.1 2375 = .ok (.ldc2_w 52, 3) := by decide +kernel
theorem dL_law_2378 : decode mL_law.2.1 2378 = .ok (.land, 1) := by decide +kernel
theorem dL_law_2379 : decode mL_law.2.1 2379 = .ok (.lor, 1) := by decide +kernel
theorem dL_law_2380 : decode mL_law.2.1 2380 = .ok (.aload_n 0, 1) := by decide +kernel
theorem dL_law_2381 : decode mL_law.2.1 2381 = .ok (.iload 4, 2) := by decide +kernel
theorem dL_law_2383 : decode mL_law.2.1 2383 = .ok (.bipush 6, 2) := by decide +kernel
theorem dL_law_2385 : decode mL_law.2.1 2385 = .ok (.iadd, 1) := by decide +kernel
theorem dL_law_2386 : decode mL_law.2.1 2386 = .ok (.iaload, 1) := by decide +kernel
theorem dL_law_2387 : decode mL_law.2.1 2387 = .ok (.invokevirtual 182, 3) := by decide +kernel
theorem dL_law_2390 : decode mL_law.2.1 2390 = .ok (.if_icmp .eq 367, 3) := by decide +kernel
theorem dL_law_2393 : decode mL_law.2.1 2393 = .ok (.iconst 0, 1) := by decide +kernel
theorem dL_law_2394 : decode mL_law.2.1 2394 = .ok (.ireturn, 1) := by decide +kernel
theorem dL_law_2395 : decode mL_law.2.1 2395 = .ok (.aload_n 1, 1) := by decide +kernel
theorem dL_law_2396 : decode mL_law.2.1 2396 = .ok (.aload_n 0, 1) := by decide +kernel
theorem dL_law_2397 : decode mL_law.2.1 2397 = .ok (.iload 4, 2) := by decide +kernel
theorem dL_law_2399 : decode mL_law.2.1 2399 = .ok (.iconst 1, 1) := by decide +kernel
theorem dL_law_2400 : decode mL_law.2.1 2400 = .ok (.iadd, 1) := by decide +kernel
theorem dL_law_2401 : decode mL_law.2.1 2401 = .ok (.iaload, 1) := by decide +kernel
theorem dL_law_2402 : decode mL_law.2.1 2402 = .ok (.aload_n 0, 1) := by decide +kernel
theorem dL_law_2403 : decode mL_law.2.1 2403 = .ok (.iload 4, 2) := by decide +kernel
theorem dL_law_2405 : decode mL_law.2.1 2405 = .ok (.iconst 2, 1) := by decide +kernel
theorem dL_law_2406 : decode mL_law.2.1 2406 = .ok (.iadd, 1) := by decide +kernel
theorem dL_law_2407 : decode mL_law.2.1 2407 = .ok (.iaload, 1) := by decide +kernel
theorem dL_law_2408 : decode mL_law.2.1 2408 = .ok (.invokevirtual 183, 3) := by decide +kernel
theorem dL_law_2411 : decode mL_law.2.1 2411 = .ok (.aload_n 2, 1) := by decide +kernel
theorem dL_law_2412 : decode mL_law.2.1 2412 = .ok (.aload_n 0, 1) := by decide +kernel
theorem dL_law_2413 : decode mL_law.2.1 2413 = .ok (.iload 4, 2) := by decide +kernel
theorem dL_law_2415 : decode mL_law.2.1 2415 = .ok (.iconst 1, 1) := by decide +kernel
theorem dL_law_2416 : decode mL_law.2.1 2416 = .ok (.iadd, 1) := by decide +kernel
theorem dL_law_2417 : decode mL_law.2.1 2417 = .ok (.iaload, 1) := by decide +kernel
theorem dL_law_2418 : decode mL_law.2.1 2418 = .ok (.aload_n 0, 1) := by decide +kernel
theorem dL_law_2419 : decode mL_law.2.1 2419 = .ok (.iload 4, 2) := by decide +kernel
theorem dL_law_2421 : decode mL_law.2.1 2421 = .ok (.iconst 2, 1) := by decide +kernel
theorem dL_law_2422 : decode mL_law.2.1 2422 = .ok (.iadd, 1) := by decide +kernel
theorem dL_law_2423 : decode mL_law.2.1 2423 = .ok (.iaload, 1) := by decide +kernel
theorem dL_law_2424 : decode mL_law.2.1 2424 = .ok (.invokevirtual 186, 3) := by decide +kernel
theorem dL_law_2427 : decode mL_law.2.1 2427 = .ok (.if_icmp .eq 330, 3) := by decide +kernel
theorem dL_law_2430 : decode mL_law.2.1 2430 = .ok (.iconst 0, 1) := by decide +kernel
theorem dL_law_2431 : decode mL_law.2.1 2431 = .ok (.ireturn, 1) := by decide +kernel
theorem dL_law_2432 : decode mL_law.2.1 2432 = .ok (.aload_n 1, 1) := by decide +kernel
theorem dL_law_2433 : decode mL_law.2.1 2433 = .ok (.aload_n 0, 1) := by decide +kernel
theorem dL_law_2434 : decode mL_law.2.1 2434 = .ok (.iload 4, 2) := by decide +kernel
theorem dL_law_2436 : decode mL_law.2.1 2436 = .ok (.iconst 1, 1) := by decide +kernel
theorem dL_law_2437 : decode mL_law.2.1 2437 = .ok (.iadd, 1) := by decide +kernel
theorem dL_law_2438 : decode mL_law.2.1 2438 = .ok (.iaload, 1) := by decide +kernel
theorem dL_law_2439 : decode mL_law.2.1 2439 = .ok (.aload_n 0, 1) := by decide +kernel
theorem dL_law_2440 : decode mL_law.2.1 2440 = .ok (.iload 4, 2) := by decide +kernel
theorem dL_law_2442 : decode mL_law.2.1 2442 = .ok (.iconst 2, 1) := by decide +kernel
theorem dL_law_2443 : decode mL_law.2.1 2443 = .ok (.iadd, 1) := by decide +kernel
theorem dL_law_2444 : decode mL_law.2.1 2444 = .ok (.iaload, 1) := by decide +kernel
theorem dL_law_2445 : decode mL_law.2.1 2445 = .ok (.invokevirtual 187, 3) := by decide +kernel
theorem dL_law_2448 : decode mL_law.2.1 2448 = .ok (.aload_n 2, 1) := by decide +kernel
theorem dL_law_2449 : decode mL_law.2.1 2449 = .ok (.aload_n 0, 1) := by decide +kernel
theorem dL_law_2450 : decode mL_law.2.1 2450 = .ok (.iload 4, 2) := by decide +kernel
theorem dL_law_2452 : decode mL_law.2.1 2452 = .ok (.iconst 1, 1) := by decide +kernel
theorem dL_law_2453 : decode mL_law.2.1 2453 = .ok (.iadd, 1) := by decide +kernel
theorem dL_law_2454 : decode mL_law.2.1 2454 = .ok (.iaload, 1) := by decide +kernel
theorem dL_law_2455 : decode mL_law.2.1 2455 = .ok (.aload_n 0, 1) := by decide +kernel
theorem dL_law_2456 : decode mL_law.2.1 2456 = .ok (.iload 4, 2) := by decide +kernel
theorem dL_law_2458 : decode mL_law.2.1 2458 = .ok (.iconst 2, 1) := by decide +kernel
theorem dL_law_2459 : decode mL_law.2.1 2459 = .ok (.iadd, 1) := by decide +kernel
theorem dL_law_2460 : decode mL_law.2.1 2460 = .ok (.iaload, 1) := by decide +kernel
theorem dL_law_2461 : decode mL_law.2.1 2461 = .ok (.invokevirtual 190, 3) := by decide +kernel
theorem dL_law_2464 : decode mL_law.2.1 2464 = .ok (.if_icmp .eq 293, 3) := by decide +kernel
theorem dL_law_2467 : decode mL_law.2.1 2467 = .ok (.iconst 0, 1) := by decide +kernel
theorem dL_law_2468 : decode mL_law.2.1 2468 = .ok (.ireturn, 1) := by decide +kernel
theorem dL_law_2469 : decode mL_law.2.1 2469 = .ok (.aload_n 1, 1) := by decide +kernel
theorem dL_law_2470 : decode mL_law.2.1 2470 = .ok (.aload_n 0, 1) := by decide +kernel
theorem dL_law_2471 : decode mL_law.2.1 2471 = .ok (.iload 4, 2) := by decide +kernel
theorem dL_law_2473 : decode mL_law.2.1 2473 = .ok (.iconst 1, 1) := by decide +kernel
theorem dL_law_2474 : decode mL_law.2.1 2474 = .ok (.iadd, 1) := by decide +kernel
theorem dL_law_2475 : decode mL_law.2.1 2475 = .ok (.iaload, 1) := by decide +kernel
theorem dL_law_2476 : decode mL_law.2.1 2476 = .ok (.aload_n 0, 1) := by decide +kernel
theorem dL_law_2477 : decode mL_law.2.1 2477 = .ok (.iload 4, 2) := by decide +kernel
theorem dL_law_2479 : decode mL_law.2.1 2479 = .ok (.iconst 2, 1) := by decide +kernel
theorem dL_law_2480 : decode mL_law.2.1 2480 = .ok (.iadd, 1) := by decide +kernel
theorem dL_law_2481 : decode mL_law.2.1 2481 = .ok (.iaload, 1) := by decide +kernel
theorem dL_law_2482 : decode mL_law.2.1 2482 = .ok (.invokevirtual 191, 3) := by decide +kernel
theorem dL_law_2485 : decode mL_law.2.1 2485 = .ok (.aload_n 2, 1) := by decide +kernel
theorem dL_law_2486 : decode mL_law.2.1 2486 = .ok (.aload_n 0, 1) := by decide +kernel
theorem dL_law_2487 : decode mL_law.2.1 2487 = .ok (.iload 4, 2) := by decide +kernel
theorem dL_law_2489 : decode mL_law.2.1 2489 = .ok (.iconst 1, 1) := by decide +kernel
theorem dL_law_2490 : decode mL_law.2.1 2490 = .ok (.iadd, 1) := by decide +kernel
theorem dL_law_2491 : decode mL_law.2.1 2491 = .ok (.iaload, 1) := by decide +kernel
theorem dL_law_2492 : decode mL_law.2.1 2492 = .ok (.aload_n 0, 1) := by decide +kernel
theorem dL_law_2493 : decode mL_law.2.1 2493 = .ok (.iload 4, 2) := by decide +kernel
theorem dL_law_2495 : decode mL_law.2.1 2495 = .ok (.iconst 2, 1) := by decide +kernel
theorem dL_law_2496 : decode mL_law.2.1 2496 = .ok (.iadd, 1) := by decide +kernel
theorem dL_law_2497 : decode mL_law.2.1 2497 = .ok (.iaload, 1) := by decide +kernel
theorem dL_law_2498 : decode mL_law.2.1 2498 = .ok (.invokevirtual 194, 3) := by decide +kernel
theorem dL_law_2501 : decode mL_law.2.1 2501 = .ok (.if_icmp .eq 256, 3) := by decide +kernel
theorem dL_law_2504 : decode mL_law.2.1 2504 = .ok (.iconst 0, 1) := by decide +kernel
theorem dL_law_2505 : decode mL_law.2.1 2505 = .ok (.ireturn, 1) := by decide +kernel
theorem dL_law_2506 : decode mL_law.2.1 2506 = .ok (.aload_n 1, 1) := by decide +kernel
theorem dL_law_2507 : decode mL_law.2.1 2507 = .ok (.aload_n 0, 1) := by decide +kernel
theorem dL_law_2508 : decode mL_law.2.1 2508 = .ok (.iload 4, 2) := by decide +kernel
theorem dL_law_2510 : decode mL_law.2.1 2510 = .ok (.iconst 1, 1) := by decide +kernel
theorem dL_law_2511 : decode mL_law.2.1 2511 = .ok (.iadd, 1) := by decide +kernel
theorem dL_law_2512 : decode mL_law.2.1 2512 = .ok (.iaload, 1) := by decide +kernel
theorem dL_law_2513 : decode mL_law.2.1 2513 = .ok (.aload_n 0, 1) := by decide +kernel
theorem dL_law_2514 : decode mL_law.2.1 2514 = .ok (.iload 4, 2) := by decide +kernel
theorem dL_law_2516 : decode mL_law.2.1 2516 = .ok (.iconst 2, 1) := by decide +kernel
theorem dL_law_2517 : decode mL_law.2.1 2517 = .ok (.iadd, 1) := by decide +kernel
theorem dL_law_2518 : decode mL_law.2.1 2518 = .ok (.iaload, 1) := by decide +kernel
theorem dL_law_2519 : decode mL_law.2.1 2519 = .ok (.aload_n 0, 1) := by decide +kernel
theorem dL_law_2520 : decode mL_law.2.1 2520 = .ok (.iload 4, 2) := by decide +kernel
theorem dL_law_2522 : decode mL_law.2.1 2522 = .ok (.iconst 3, 1) := by decide +kernel
theorem dL_law_2523 : decode mL_law.2.1 2523 = .ok (.iadd, 1) := by decide +kernel
theorem dL_law_2524 : decode mL_law.2.1 2524 = .ok (.iaload, 1) := by decide +kernel
theorem dL_law_2525 : decode mL_law.2.1 2525 = .ok (.aload_n 0, 1) := by decide +kernel
theorem dL_law_2526 : decode mL_law.2.1 2526 = .ok (.iload 4, 2) := by decide +kernel
theorem dL_law_2528 : decode mL_law.2.1 2528 = .ok (.iconst 4, 1) := by decide +kernel
theorem dL_law_2529 : decode mL_law.2.1 2529 = .ok (.iadd, 1) := by decide +kernel
theorem dL_law_2530 : decode mL_law.2.1 2530 = .ok (.iaload, 1) := by decide +kernel
theorem dL_law_2531 : decode mL_law.2.1 2531 = .ok (.i2l, 1) := by decide +kernel
theorem dL_law_2532 : decode mL_law.2.1 2532 = .ok (.bipush 32, 2) := by decide +kernel
theorem dL_law_2534 : decode mL_law.2.1 2534 = .ok (.lshl, 1) := by decide +kernel
theorem dL_law_2535 : decode mL_law.2.1 2535 = .ok (.aload_n 0, 1) := by decide +kernel
theorem dL_law_2536 : decode mL_law.2.1 2536 = .ok (.iload 4, 2) := by decide +kernel
theorem dL_law_2538 : decode mL_law.2.1 2538 = .ok (.iconst 5, 1) := by decide +kernel
theorem dL_law_2539 : decode mL_law.2.1 2539 = .ok (.iadd, 1) := by decide +kernel
theorem dL_law_2540 : decode mL_law.2.1 2540 = .ok (.iaload, 1) := by decide +kernel
theorem dL_law_2541 : decode mL_law.2.1 2541 = .ok (.i2l, 1) := by decide +kernel
theorem dL_law_2542 : decode mL_law.2.1 2542 = .ok (.ldc2_w 52, 3) := by decide +kernel
theorem dL_law_2545 : decode mL_law.2.1 2545 = .ok (.land, 1) := by decide +kernel
theorem dL_law_2546 : decode mL_law.2.1 2546 = .ok (.lor, 1) := by decide +kernel
theorem dL_law_2547 : decode mL_law.2.1 2547 = .ok (.aload_n 0, 1) := by decide +kernel
theorem dL_law_2548 : decode mL_law.2.1 2548 = .ok (.iload 4, 2) := by decide +kernel
theorem dL_law_2550 : decode mL_law.2.1 2550 = .ok (.bipush 6, 2) := by decide +kernel
theorem dL_law_2552 : decode mL_law.2.1 2552 = .ok (.iadd, 1) := by decide +kernel
theorem dL_law_2553 : decode mL_law.2.1 2553 = .ok (.iaload, 1) := by decide +kernel
theorem dL_law_2554 : decode mL_law.2.1 2554 = .ok (.invokevirtual 195, 3) := by decide +kernel
theorem dL_law_2557 : decode mL_law.2.1 2557 = .ok (.aload_n 2, 1) := by decide +kernel
theorem dL_law_2558 : decode mL_law.2.1 2558 = .ok (.aload_n 0, 1) := by decide +kernel
theorem dL_law_2559 : decode mL_law.2.1 2559 = .ok (.iload 4, 2) := by decide +kernel
theorem dL_law_2561 : decode mL_law.2.1 2561 = .ok (.iconst 1, 1) := by decide +kernel
theorem dL_law_2562 : decode mL_law.2.1 2562 = .ok (.iadd, 1) := by decide +kernel
theorem dL_law_2563 : decode mL_law.2.1 2563 = .ok (.iaload, 1) := by decide +kernel
theorem dL_law_2564 : decode mL_law.2.1 2564 = .ok (.aload_n 0, 1) := by decide +kernel
theorem dL_law_2565 : decode mL_law.2.1 2565 = .ok (.iload 4, 2) := by decide +kernel
theorem dL_law_2567 : decode mL_law.2.1 2567 = .ok (.iconst 2, 1) := by decide +kernel
theorem dL_law_2568 : decode mL_law.2.1 2568 = .ok (.iadd, 1) := by decide +kernel
theorem dL_law_2569 : decode mL_law.2.1 2569 = .ok (.iaload, 1) := by decide +kernel
theorem dL_law_2570 : decode mL_law.2.1 2570 = .ok (.aload_n 0, 1) := by decide +kernel
theorem dL_law_2571 : decode mL_law.2.1 2571 = .ok (.iload 4, 2) := by decide +kernel
theorem dL_law_2573 : decode mL_law.2.1 2573 = .ok (.iconst 3, 1) := by decide +kernel
theorem dL_law_2574 : decode mL_law.2.1 2574 = .ok (.iadd, 1) := by decide +kernel
theorem dL_law_2575 : decode mL_law.2.1 2575 = .ok (.iaload, 1) := by decide +kernel
theorem dL_law_2576 : decode mL_law.2.1 2576 = .ok (.aload_n 0, 1) := by decide +kernel
theorem dL_law_2577 : decode mL_law.2.1 2577 = .ok (.iload 4, 2) := by decide +kernel
theorem dL_law_2579 : decode mL_law.2.1 2579 = .ok (.iconst 4, 1) := by decide +kernel
theorem dL_law_2580 : decode mL_law.2.1 2580 = .ok (.iadd, 1) := by decide +kernel
theorem dL_law_2581 : decode mL_law.2.1 2581 = .ok (.iaload, 1) := by decide +kernel
theorem dL_law_2582 : decode mL_law.2.1 2582 = .ok (.i2l, 1) := by decide +kernel
theorem dL_law_2583 : decode mL_law.2.1 2583 = .ok (.bipush 32, 2) := by decide +kernel
theorem dL_law_2585 : decode mL_law.2.1 2585 = .ok (.lshl, 1) := by decide +kernel
theorem dL_law_2586 : decode mL_law.2.1 2586 = .ok (.aload_n 0, 1) := by decide +kernel
theorem dL_law_2587 : decode mL_law.2.1 2587 = .ok (.iload 4, 2) := by decide +kernel
theorem dL_law_2589 : decode mL_law.2.1 2589 = .ok (.iconst 5, 1) := by decide +kernel
theorem dL_law_2590 : decode mL_law.2.1 2590 = .ok (.iadd, 1) := by decide +kernel
theorem dL_law_2591 : decode mL_law.2.1 2591 = .ok (.iaload, 1) := by decide +kernel
theorem dL_law_2592 : decode mL_law.2.1 2592 = .ok (.i2l, 1) := by decide +kernel
theorem dL_law_2593 : decode mL_law.2.1 2593 = .ok (.ldc2_w 52, 3) := by decide +kernel
theorem dL_law_2596 : decode mL_law.2.1 2596 = .ok (.land, 1) := by decide +kernel
theorem dL_law_2597 : decode mL_law.2.1 2597 = .ok (.lor, 1) := by decide +kernel
theorem dL_law_2598 : decode mL_law.2.1 2598 = .ok (.aload_n 0, 1) := by decide +kernel
theorem dL_law_2599 : decode mL_law.2.1 2599 = .ok (.iload 4, 2) := by decide +kernel
theorem dL_law_2601 : decode mL_law.2.1 2601 = .ok (.bipush 6, 2) := by decide +kernel
theorem dL_law_2603 : decode mL_law.2.1 2603 = .ok (.iadd, 1) := by decide +kernel
theorem dL_law_2604 : decode mL_law.2.1 2604 = .ok (.iaload, 1) := by decide +kernel
theorem dL_law_2605 : decode mL_law.2.1 2605 = .ok (.invokevirtual 198, 3) := by decide +kernel
theorem dL_law_2608 : decode mL_law.2.1 2608 = .ok (.if_icmp .eq 149, 3) := by decide +kernel
theorem dL_law_2611 : decode mL_law.2.1 2611 = .ok (.iconst 0, 1) := by decide +kernel
theorem dL_law_2612 : decode mL_law.2.1 2612 = .ok (.ireturn, 1) := by decide +kernel
theorem dL_law_2613 : decode mL_law.2.1 2613 = .ok (.aload_n 1, 1) := by decide +kernel
theorem dL_law_2614 : decode mL_law.2.1 2614 = .ok (.aload_n 0, 1) := by decide +kernel
theorem dL_law_2615 : decode mL_law.2.1 2615 = .ok (.iload 4, 2) := by decide +kernel
theorem dL_law_2617 : decode mL_law.2.1 2617 = .ok (.iconst 1, 1) := by decide +kernel
theorem dL_law_2618 : decode mL_law.2.1 2618 = .ok (.iadd, 1) := by decide +kernel
theorem dL_law_2619 : decode mL_law.2.1 2619 = .ok (.iaload, 1) := by decide +kernel
theorem dL_law_2620 : decode mL_law.2.1 2620 = .ok (.aload_n 0, 1) := by decide +kernel
theorem dL_law_2621 : decode mL_law.2.1 2621 = .ok (.iload 4, 2) := by decide +kernel
theorem dL_law_2623 : decode mL_law.2.1 2623 = .ok (.iconst 2, 1) := by decide +kernel
theorem dL_law_2624 : decode mL_law.2.1 2624 = .ok (.iadd, 1) := by decide +kernel
theorem dL_law_2625 : decode mL_law.2.1 2625 = .ok (.iaload, 1) := by decide +kernel
theorem dL_law_2626 : decode mL_law.2.1 2626 = .ok (.aload_n 0, 1) := by decide +kernel
theorem dL_law_2627 : decode mL_law.2.1 2627 = .ok (.iload 4, 2) := by decide +kernel
theorem dL_law_2629 : decode mL_law.2.1 2629 = .ok (.iconst 3, 1) := by decide +kernel
theorem dL_law_2630 : decode mL_law.2.1 2630 = .ok (.iadd, 1) := by decide +kernel
theorem dL_law_2631 : decode mL_law.2.1 2631 = .ok (.iaload, 1) := by decide +kernel
theorem dL_law_2632 : decode mL_law.2.1 2632 = .ok (.aload_n 0, 1) := by decide +kernel
theorem dL_law_2633 : decode mL_law.2.1 2633 = .ok (.iload 4, 2) := by decide +kernel
theorem dL_law_2635 : decode mL_law.2.1 2635 = .ok (.iconst 4, 1) := by decide +kernel
theorem dL_law_2636 : decode mL_law.2.1 2636 = .ok (.iadd, 1) := by decide +kernel
theorem dL_law_2637 : decode mL_law.2.1 2637 = .ok (.iaload, 1) := by decide +kernel
theorem dL_law_2638 : decode mL_law.2.1 2638 = .ok (.i2l, 1) := by decide +kernel
theorem dL_law_2639 : decode mL_law.2.1 2639 = .ok (.bipush 32, 2) := by decide +kernel
theorem dL_law_2641 : decode mL_law.2.1 2641 = .ok (.lshl, 1) := by decide +kernel
theorem dL_law_2642 : decode mL_law.2.1 2642 = .ok (.aload_n 0, 1) := by decide +kernel
theorem dL_law_2643 : decode mL_law.2.1 2643 = .ok (.iload 4, 2) := by decide +kernel
theorem dL_law_2645 : decode mL_law.2.1 2645 = .ok (.iconst 5, 1) := by decide +kernel
theorem dL_law_2646 : decode mL_law.2.1 2646 = .ok (.iadd, 1) := by decide +kernel
theorem dL_law_2647 : decode mL_law.2.1 2647 = .ok (.iaload, 1) := by decide +kernel
theorem dL_law_2648 : decode mL_law.2.1 2648 = .ok (.i2l, 1) := by decide +kernel
theorem dL_law_2649 : decode mL_law.2.1 2649 = .ok (.ldc2_w 52, 3) := by decide +kernel
theorem dL_law_2652 : decode mL_law.2.1 2652 = .ok (.land, 1) := by decide +kernel
theorem dL_law_2653 : decode mL_law.2.1 2653 = .ok (.lor, 1) := by decide +kernel
theorem dL_law_2654 : decode mL_law.2.1 2654 = .ok (.invokevirtual 199, 3) := by decide +kernel
theorem dL_law_2657 : decode mL_law.2.1 2657 = .ok (.aload_n 2, 1) := by decide +kernel
theorem dL_law_2658 : decode mL_law.2.1 2658 = .ok (.aload_n 0, 1) := by decide +kernel
theorem dL_law_2659 : decode mL_law.2.1 2659 = .ok (.iload 4, 2) := by decide +kernel
theorem dL_law_2661 : decode mL_law.2.1 2661 = .ok (.iconst 1, 1) := by decide +kernel
theorem dL_law_2662 : decode mL_law.2.1 2662 = .ok (.iadd, 1) := by decide +kernel
theorem dL_law_2663 : decode mL_law.2.1 2663 = .ok (.iaload, 1) := by decide +kernel
theorem dL_law_2664 : decode mL_law.2.1 2664 = .ok (.aload_n 0, 1) := by decide +kernel
theorem dL_law_2665 : decode mL_law.2.1 2665 = .ok (.iload 4, 2) := by decide +kernel
theorem dL_law_2667 : decode mL_law.2.1 2667 = .ok (.iconst 2, 1) := by decide +kernel
theorem dL_law_2668 : decode mL_law.2.1 2668 = .ok (.iadd, 1) := by decide +kernel
theorem dL_law_2669 : decode mL_law.2.1 2669 = .ok (.iaload, 1) := by decide +kernel
theorem dL_law_2670 : decode mL_law.2.1 2670 = .ok (.aload_n 0, 1) := by decide +kernel
theorem dL_law_2671 : decode mL_law.2.1 2671 = .ok (.iload 4, 2) := by decide +kernel
theorem dL_law_2673 : decode mL_law.2.1 2673 = .ok (.iconst 3, 1) := by decide +kernel
theorem dL_law_2674 : decode mL_law.2.1 2674 = .ok (.iadd, 1) := by decide +kernel
theorem dL_law_2675 : decode mL_law.2.1 2675 = .ok (.iaload, 1) := by decide +kernel
theorem dL_law_2676 : decode mL_law.2.1 2676 = .ok (.aload_n 0, 1) := by decide +kernel
theorem dL_law_2677 : decode mL_law.2.1 2677 = .ok (.iload 4, 2) := by decide +kernel
theorem dL_law_2679 : decode mL_law.2.1 2679 = .ok (.iconst 4, 1) := by decide +kernel
theorem dL_law_2680 : decode mL_law.2.1 2680 = .ok (.iadd, 1) := by decide +kernel
theorem dL_law_2681 : decode mL_law.2.1 2681 = .ok (.iaload, 1) := by decide +kernel
theorem dL_law_2682 : decode mL_law.2.1 2682 = .ok (.i2l, 1) := by decide +kernel
theorem dL_law_2683 : decode mL_law.2.1 2683 = .ok (.bipush 32, 2) := by decide +kernel
theorem dL_law_2685 : decode mL_law.2.1 2685 = .ok (.lshl, 1) := by decide +kernel
theorem dL_law_2686 : decode mL_law.2.1 2686 = .ok (.aload_n 0, 1) := by decide +kernel
theorem dL_law_2687 : decode mL_law.2.1 2687 = .ok (.iload 4, 2) := by decide +kernel
theorem dL_law_2689 : decode mL_law.2.1 2689 = .ok (.iconst 5, 1) := by decide +kernel
theorem dL_law_2690 : decode mL_law.2.1 2690 = .ok (.iadd, 1) := by decide +kernel
theorem dL_law_2691 : decode mL_law.2.1 2691 = .ok (.iaload, 1) := by decide +kernel
theorem dL_law_2692 : decode mL_law.2.1 2692 = .ok (.i2l, 1) := by decide +kernel
theorem dL_law_2693 : decode mL_law.2.1 2693 = .ok (.ldc2_w 52, 3) := by decide +kernel
theorem dL_law_2696 : decode mL_law.2.1 2696 = .ok (.land, 1) := by decide +kernel
theorem dL_law_2697 : decode mL_law.2.1 2697 = .ok (.lor, 1) := by decide +kernel
theorem dL_law_2698 : decode mL_law.2.1 2698 = .ok (.invokevirtual 203, 3) := by decide +kernel
theorem dL_law_2701 : decode mL_law.2.1 2701 = .ok (.if_icmp .eq 56, 3) := by decide +kernel
theorem dL_law_2704 : decode mL_law.2.1 2704 = .ok (.iconst 0, 1) := by decide +kernel
theorem dL_law_2705 : decode mL_law.2.1 2705 = .ok (.ireturn, 1) := by decide +kernel
theorem dL_law_2706 : decode mL_law.2.1 2706 = .ok (.aload_n 1, 1) := by decide +kernel
theorem dL_law_2707 : decode mL_law.2.1 2707 = .ok (.invokevirtual 204, 3) := by decide +kernel
theorem dL_law_2710 : decode mL_law.2.1 2710 = .ok (.aload_n 2, 1) := by decide +kernel
theorem dL_law_2711 : decode mL_law.2.1 2711 = .ok (.invokevirtual 207, 3) := by decide +kernel
theorem dL_law_2714 : decode mL_law.2.1 2714 = .ok (.if_icmp .eq 43, 3) := by decide +kernel
theorem dL_law_2717 : decode mL_law.2.1 2717 = .ok (.iconst 0, 1) := by decide +kernel
theorem dL_law_2718 : decode mL_law.2.1 2718 = .ok (.ireturn, 1) := by decide +kernel
theorem dL_law_2719 : decode mL_law.2.1 2719 = .ok (.aload_n 1, 1) := by decide +kernel
theorem dL_law_2720 : decode mL_law.2.1 2720 = .ok (.invokevirtual 208, 3) := by decide +kernel
theorem dL_law_2723 : decode mL_law.2.1 2723 = .ok (.aload_n 2, 1) := by decide +kernel
theorem dL_law_2724 : decode mL_law.2.1 2724 = .ok (.invokevirtual 211, 3) := by decide +kernel
theorem dL_law_2727 : decode mL_law.2.1 2727 = .ok (.if_icmp .eq 30, 3) := by decide +kernel
theorem dL_law_2730 : decode mL_law.2.1 2730 = .ok (.iconst 0, 1) := by decide +kernel
theorem dL_law_2731 : decode mL_law.2.1 2731 = .ok (.ireturn, 1) := by decide +kernel
theorem dL_law_2732 : decode mL_law.2.1 2732 = .ok (.aload_n 1, 1) := by decide +kernel
theorem dL_law_2733 : decode mL_law.2.1 2733 = .ok (.aload_n 0, 1) := by decide +kernel
theorem dL_law_2734 : decode mL_law.2.1 2734 = .ok (.iload 4, 2) := by decide +kernel
theorem dL_law_2736 : decode mL_law.2.1 2736 = .ok (.iconst 1, 1) := by decide +kernel
theorem dL_law_2737 : decode mL_law.2.1 2737 = .ok (.iadd, 1) := by decide +kernel
theorem dL_law_2738 : decode mL_law.2.1 2738 = .ok (.iaload, 1) := by decide +kernel
theorem dL_law_2739 : decode mL_law.2.1 2739 = .ok (.invokevirtual 212, 3) := by decide +kernel
theorem dL_law_2742 : decode mL_law.2.1 2742 = .ok (.aload_n 2, 1) := by decide +kernel
theorem dL_law_2743 : decode mL_law.2.1 2743 = .ok (.aload_n 0, 1) := by decide +kernel
theorem dL_law_2744 : decode mL_law.2.1 2744 = .ok (.iload 4, 2) := by decide +kernel
theorem dL_law_2746 : decode mL_law.2.1 2746 = .ok (.iconst 1, 1) := by decide +kernel
theorem dL_law_2747 : decode mL_law.2.1 2747 = .ok (.iadd, 1) := by decide +kernel
theorem dL_law_2748 : decode mL_law.2.1 2748 = .ok (.iaload, 1) := by decide +kernel
theorem dL_law_2749 : decode mL_law.2.1 2749 = .ok (.invokevirtual 215, 3) := by decide +kernel
theorem dL_law_2752 : decode mL_law.2.1 2752 = .ok (.if_icmp .eq 5, 3) := by decide +kernel
theorem dL_law_2755 : decode mL_law.2.1 2755 = .ok (.iconst 0, 1) := by decide +kernel
theorem dL_law_2756 : decode mL_law.2.1 2756 = .ok (.ireturn, 1) := by decide +kernel
theorem dL_law_2757 : decode mL_law.2.1 2757 = .ok (.iinc 4 10, 3) := by decide +kernel
theorem dL_law_2760 : decode mL_law.2.1 2760 = .ok (.goto (-2737), 3) := by decide +kernel
theorem dL_law_2763 : decode mL_law.2.1 2763 = .ok (.iconst 1, 1) := by decide +kernel
theorem dL_law_2764 : decode mL_law.2.1 2764 = .ok (.ireturn, 1) := by decide +kernel
