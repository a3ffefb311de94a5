def mL_law : String × ByteArray × Nat := (RL, cL_law, 4)
theorem dL_law_0 : decode mL_law.2.1 0 = .ok (.new 7, 3) := by decide +kernel
theorem dL_law_3 : decode mL_law.2.1 3 = .ok (.dup, 1) := by decide +kernel
theorem dL_law_4 : decode mL_law.2.1 4 = .ok (.invokespecial 9, 3) := by decide +kernel
theorem dL_law_7 : decode mL_law.2.1 7 = .ok (.astore_n 1, 1) := by decide +kernel
theorem dL_law_8 : decode mL_law.2.1 8 = .ok (.new 10, 3) := by decide +kernel
theorem dL_law_11 : decode mL_law.2.1 11 = .ok (.dup, 1) := by decide +kernel
theorem dL_law_12 : decode mL_law.2.1 12 = .ok (.invokespecial 12, 3) := by decide +kernel
theorem dL_law_15 : decode mL_law.2.1 15 = .ok (.astore_n 2, 1) := by decide +kernel
theorem dL_law_16 : decode mL_law.2.1 16 = .ok (.iconst 0, 1) := by decide +kernel
theorem dL_law_17 : decode mL_law.2.1 17 = .ok (.istore_n 3, 1) := by decide +kernel
theorem dL_law_18 : decode mL_law.2.1 18 = .ok (.iload_n 3, 1) := by decide +kernel
theorem dL_law_19 : decode mL_law.2.1 19 = .ok (.aload_n 0, 1) := by decide +kernel
theorem dL_law_20 : decode mL_law.2.1 20 = .ok (.arraylength, 1) := by decide +kernel
theorem dL_law_21 : decode mL_law.2.1 21 = .ok (.bipush 6, 2) := by decide +kernel
theorem dL_law_23 : decode mL_law.2.1 23 = .ok (.isub, 1) := by decide +kernel
theorem dL_law_24 : decode mL_law.2.1 24 = .ok (.if_icmp .gt 1871, 3) := by decide +kernel
theorem dL_law_27 : decode mL_law.2.1 27 = .ok (.aload_n 0, 1) := by decide +kernel
theorem dL_law_28 : decode mL_law.2.1 28 = .ok (.iload_n 3, 1) := by decide +kernel
theorem dL_law_29 : decode mL_law.2.1 29 = .ok (.iaload, 1) := by decide +kernel
theorem dL_law_30 : decode mL_law.2.1 30 = .ok (.bipush 63, 2) := by decide +kernel
theorem dL_law_32 : decode mL_law.2.1 32 = .ok (.iand, 1) := by decide +kernel
theorem dL_law_33 : decode mL_law.2.1 33 = .ok (.tableswitch 1856 0 48 #[211, 244, 267, 310, 343, 366, 399, 443, 477, 490, 523, 546, 580, 613, 656, 689, 732, 755, 778, 801, 834, 867, 900, 933, 967, 1001, 1044, 1077, 1120, 1153, 1186, 1229, 1272, 1325, 1359, 1393, 1446, 1469, 1492, 1515, 1538, 1551, 1594, 1607, 1620, 1643, 1686, 1759, 1793], 211) := by decide +kernel
theorem dL_law_244 : decode mL_law.2.1 244 = .ok (.aload_n 1, 1) := by decide +kernel
theorem dL_law_245 : decode mL_law.2.1 245 = .ok (.aload_n 0, 1) := by decide +kernel
theorem dL_law_246 : decode mL_law.2.1 246 = .ok (.iload_n 3, 1) := by decide +kernel
theorem dL_law_247 : decode mL_law.2.1 247 = .ok (.iconst 1, 1) := by decide +kernel
theorem dL_law_248 : decode mL_law.2.1 248 = .ok (.iadd, 1) := by decide +kernel
theorem dL_law_249 : decode mL_law.2.1 249 = .ok (.iaload, 1) := by decide +kernel
theorem dL_law_250 : decode mL_law.2.1 250 = .ok (.aload_n 0, 1) := by decide +kernel
theorem dL_law_251 : decode mL_law.2.1 251 = .ok (.iload_n 3, 1) := by decide +kernel
theorem dL_law_252 : decode mL_law.2.1 252 = .ok (.iconst 2, 1) := by decide +kernel
theorem dL_law_253 : decode mL_law.2.1 253 = .ok (.iadd, 1) := by decide +kernel
theorem dL_law_254 : decode mL_law.2.1 254 = .ok (.iaload, 1) := by decide +kernel
theorem dL_law_255 : decode mL_law.2.1 255 = .ok (.invokevirtual 13, 3) := by decide +kernel
theorem dL_law_258 : decode mL_law.2.1 258 = .ok (.aload_n 2, 1) := by decide +kernel
theorem dL_law_259 : decode mL_law.2.1 259 = .ok (.aload_n 0, 1) := by decide +kernel
theorem dL_law_260 : decode mL_law.2.1 260 = .ok (.iload_n 3, 1) := by decide +kernel
theorem dL_law_261 : decode mL_law.2.1 261 = .ok (.iconst 1, 1) := by decide +kernel
theorem dL_law_262 : decode mL_law.2.1 262 = .ok (.iadd, 1) := by decide +kernel
theorem dL_law_263 : decode mL_law.2.1 263 = .ok (.iaload, 1) := by decide +kernel
theorem dL_law_264 : decode mL_law.2.1 264 = .ok (.aload_n 0, 1) := by decide +kernel
theorem dL_law_265 : decode mL_law.2.1 265 = .ok (.iload_n 3, 1) := by decide +kernel
theorem dL_law_266 : decode mL_law.2.1 266 = .ok (.iconst 2, 1) := by decide +kernel
theorem dL_law_267 : decode mL_law.2.1 267 = .ok (.iadd, 1) := by decide +kernel
theorem dL_law_268 : decode mL_law.2.1 268 = .ok (.iaload, 1) := by decide +kernel
theorem dL_law_269 : decode mL_law.2.1 269 = .ok (.invokevirtual 17, 3) := by decide +kernel
theorem dL_law_272 : decode mL_law.2.1 272 = .ok (.if_icmp .eq 1617, 3) := by decide +kernel
theorem dL_law_275 : decode mL_law.2.1 275 = .ok (.iconst 0, 1) := by decide +kernel
theorem dL_law_276 : decode mL_law.2.1 276 = .ok (.ireturn, 1) := by decide +kernel
theorem dL_law_277 : decode mL_law.2.1 277 = .ok (.aload_n 1, 1) := by decide +kernel
theorem dL_law_278 : decode mL_law.2.1 278 = .ok (.aload_n 0, 1) := by decide +kernel
theorem dL_law_279 : decode mL_law.2.1 279 = .ok (.iload_n 3, 1) := by decide +kernel
theorem dL_law_280 : decode mL_law.2.1 280 = .ok (.iconst 1, 1) := by decide +kernel
theorem dL_law_281 : decode mL_law.2.1 281 = .ok (.iadd, 1) := by decide +kernel
theorem dL_law_282 : decode mL_law.2.1 282 = .ok (.iaload, 1) := by decide +kernel
theorem dL_law_283 : decode mL_law.2.1 283 = .ok (.invokevirtual 18, 3) := by decide +kernel
theorem dL_law_286 : decode mL_law.2.1 286 = .ok (.aload_n 2, 1) := by decide +kernel
theorem dL_law_287 : decode mL_law.2.1 287 = .ok (.aload_n 0, 1) := by decide +kernel
theorem dL_law_288 : decode mL_law.2.1 288 = .ok (.iload_n 3, 1) := by decide +kernel
theorem dL_law_289 : decode mL_law.2.1 289 = .ok (.iconst 1, 1) := by decide +kernel
theorem dL_law_290 : decode mL_law.2.1 290 = .ok (.iadd, 1) := by decide +kernel
theorem dL_law_291 : decode mL_law.2.1 291 = .ok (.iaload, 1) := by decide +kernel
theorem dL_law_292 : decode mL_law.2.1 292 = .ok (.invokevirtual 22, 3) := by decide +kernel
theorem dL_law_295 : decode mL_law.2.1 295 = .ok (.if_icmp .eq 1594, 3) := by decide +kernel
theorem dL_law_298 : decode mL_law.2.1 298 = .ok (.iconst 0, 1) := by decide +kernel
theorem dL_law_299 : decode mL_law.2.1 299 = .ok (.ireturn, 1) := by decide +kernel
theorem dL_law_300 : decode mL_law.2.1 300 = .ok (.aload_n 1, 1) := by decide +kernel
theorem dL_law_301 : decode mL_law.2.1 301 = .ok (.aload_n 0, 1) := by decide +kernel
theorem dL_law_302 : decode mL_law.2.1 302 = .ok (.iload_n 3, 1) := by decide +kernel
theorem dL_law_303 : decode mL_law.2.1 303 = .ok (.iconst 1, 1) := by decide +kernel
theorem dL_law_304 : decode mL_law.2.1 304 = .ok (.iadd, 1) := by decide +kernel
theorem dL_law_305 : decode mL_law.2.1 305 = .ok (.iaload, 1) := by decide +kernel
theorem dL_law_306 : decode mL_law.2.1 306 = .ok (.aload_n 0, 1) := by decide +kernel
theorem dL_law_307 : decode mL_law.2.1 307 = .ok (.iload_n 3, 1) := by decide +kernel
theorem dL_law_308 : decode mL_law.2.1 308 = .ok (.iconst 2, 1) := by decide +kernel
theorem dL_law_309 : decode mL_law.2.1 309 = .ok (.iadd, 1) := by decide +kernel
theorem dL_law_310 : decode mL_law.2.1 310 = .ok (.iaload, 1) := by decide +kernel
theorem dL_law_311 : decode mL_law.2.1 311 = .ok (.aload_n 0, 1) := by decide +kernel
theorem dL_law_312 : decode mL_law.2.1 312 = .ok (.iload_n 3, 1) := by decide +kernel
theorem dL_law_313 : decode mL_law.2.1 313 = .ok (.iconst 3, 1) := by decide +kernel
theorem dL_law_314 : decode mL_law.2.1 314 = .ok (.iadd, 1) := by decide +kernel
theorem dL_law_315 : decode mL_law.2.1 315 = .ok (.iaload, 1) := by decide +kernel
theorem dL_law_316 : decode mL_law.2.1 316 = .ok (.invokevirtual 23, 3) := by decide +kernel
theorem dL_law_319 : decode mL_law.2.1 319 = .ok (.aload_n 2, 1) := by decide +kernel
theorem dL_law_320 : decode mL_law.2.1 320 = .ok (.aload_n 0, 1) := by decide +kernel
theorem dL_law_321 : decode mL_law.2.1 321 = .ok (.iload_n 3, 1) := by decide +kernel
theorem dL_law_322 : decode mL_law.2.1 322 = .ok (.iconst 1, 1) := by decide +kernel
theorem dL_law_323 : decode mL_law.2.1 323 = .ok (.iadd, 1) := by decide +kernel
theorem dL_law_324 : decode mL_law.2.1 324 = .ok (.iaload, 1) := by decide +kernel
theorem dL_law_325 : decode mL_law.2.1 325 = .ok (.aload_n 0, 1) := by decide +kernel
theorem dL_law_326 : decode mL_law.2.1 326 = .ok (.iload_n 3, 1) := by decide +kernel
theorem dL_law_327 : decode mL_law.2.1 327 = .ok (.iconst 2, 1) := by decide +kernel
theorem dL_law_328 : decode mL_law.2.1 328 = .ok (.iadd, 1) := by decide +kernel
theorem dL_law_329 : decode mL_law.2.1 329 = .ok (.iaload, 1) := by decide +kernel
theorem dL_law_330 : decode mL_law.2.1 330 = .ok (.aload_n 0, 1) := by decide +kernel
theorem dL_law_331 : decode mL_law.2.1 331 = .ok (.iload_n 3, 1) := by decide +kernel
theorem dL_law_332 : decode mL_law.2.1 332 = .ok (.iconst 3, 1) := by decide +kernel
theorem dL_law_333 : decode mL_law.2.1 333 = .ok (.iadd, 1) := by decide +kernel
theorem dL_law_334 : decode mL_law.2.1 334 = .ok (.iaload, 1) := by decide +kernel
theorem dL_law_335 : decode mL_law.2.1 335 = .ok (.invokevirtual 27, 3) := by decide +kernel
theorem dL_law_338 : decode mL_law.2.1 338 = .ok (.if_icmp .eq 1551, 3) := by decide +kernel
theorem dL_law_341 : decode mL_law.2.1 341 = .ok (.iconst 0, 1) := by decide +kernel
theorem dL_law_342 : decode mL_law.2.1 342 = .ok (.ireturn, 1) := by decide +kernel
theorem dL_law_343 : decode mL_law.2.1 343 = .ok (.aload_n 1, 1) := by decide +kernel
theorem dL_law_344 : decode mL_law.2.1 344 = .ok (.aload_n 0, 1) := by decide +kernel
theorem dL_law_345 : decode mL_law.2.1 345 = .ok (.iload_n 3, 1) := by decide +kernel
theorem dL_law_346 : decode mL_law.2.1 346 = .ok (.iconst 1, 1) := by decide +kernel
theorem dL_law_347 : decode mL_law.2.1 347 = .ok (.iadd, 1) := by decide +kernel
theorem dL_law_348 : decode mL_law.2.1 348 = .ok (.iaload, 1) := by decide +kernel
theorem dL_law_349 : decode mL_law.2.1 349 = .ok (.aload_n 0, 1) := by decide +kernel
theorem dL_law_350 : decode mL_law.2.1 350 = .ok (.iload_n 3, 1) := by decide +kernel
theorem dL_law_351 : decode mL_law.2.1 351 = .ok (.iconst 2, 1) := by decide +kernel
theorem dL_law_352 : decode mL_law.2.1 352 = .ok (.iadd, 1) := by decide +kernel
theorem dL_law_353 : decode mL_law.2.1 353 = .ok (.iaload, 1) := by decide +kernel
theorem dL_law_354 : decode mL_law.2.1 354 = .ok (.invokevirtual 28, 3) := by decide +kernel
theorem dL_law_357 : decode mL_law.2.1 357 = .ok (.aload_n 2, 1) := by decide +kernel
theorem dL_law_358 : decode mL_law.2.1 358 = .ok (.aload_n 0, 1) := by decide +kernel
theorem dL_law_359 : decode mL_law.2.1 359 = .ok (.iload_n 3, 1) := by decide +kernel
theorem dL_law_360 : decode mL_law.2.1 360 = .ok (.iconst 1, 1) := by decide +kernel
theorem dL_law_361 : decode mL_law.2.1 361 = .ok (.iadd, 1) := by decide +kernel
theorem dL_law_362 : decode mL_law.2.1 362 = .ok (.iaload, 1) := by decide +kernel
theorem dL_law_363 : decode mL_law.2.1 363 = .ok (.aload_n 0, 1) := by decide +kernel
theorem dL_law_364 : decode mL_law.2.1 364 = .ok (.iload_n 3, 1) := by decide +kernel
theorem dL_law_365 : decode mL_law.2.1 365 = .ok (.iconst 2, 1) := by decide +kernel
theorem dL_law_366 : decode mL_law.2.1 366 = .ok (.iadd, 1) := by decide +kernel
theorem dL_law_367 : decode mL_law.2.1 367 = .ok (.iaload, 1) := by decide +kernel
theorem dL_law_368 : decode mL_law.2.1 368 = .ok (.invokevirtual 31, 3) := by decide +kernel
theorem dL_law_371 : decode mL_law.2.1 371 = .ok (.if_icmp .eq 1518, 3) := by decide +kernel
theorem dL_law_374 : decode mL_law.2.1 374 = .ok (.iconst 0, 1) := by decide +kernel
theorem dL_law_375 : decode mL_law.2.1 375 = .ok (.ireturn, 1) := by decide +kernel
theorem dL_law_376 : decode mL_law.2.1 376 = .ok (.aload_n 1, 1) := by decide +kernel
theorem dL_law_377 : decode mL_law.2.1 377 = .ok (.aload_n 0, 1) := by decide +kernel
theorem dL_law_378 : decode mL_law.2.1 378 = .ok (.iload_n 3, 1) := by decide +kernel
theorem dL_law_379 : decode mL_law.2.1 379 = .ok (.iconst 1, 1) := by decide +kernel
theorem dL_law_380 : decode mL_law.2.1 380 = .ok (.iadd, 1) := by decide +kernel
theorem dL_law_381 : decode mL_law.2.1 381 = .ok (.iaload, 1) := by decide +kernel
theorem dL_law_382 : decode mL_law.2.1 382 = .ok (.invokevirtual 32, 3) := by decide +kernel
theorem dL_law_385 : decode mL_law.2.1 385 = .ok (.aload_n 2, 1) := by decide +kernel
theorem dL_law_386 : decode mL_law.2.1 386 = .ok (.aload_n 0, 1) := by decide +kernel
theorem dL_law_387 : decode mL_law.2.1 387 = .ok (.iload_n 3, 1) := by decide +kernel
theorem dL_law_388 : decode mL_law.2.1 388 = .ok (.iconst 1, 1) := by decide +kernel
theorem dL_law_389 : decode mL_law.2.1 389 = .ok (.iadd, 1) := by decide +kernel
theorem dL_law_390 : decode mL_law.2.1 390 = .ok (.iaload, 1) := by decide +kernel
theorem dL_law_391 : decode mL_law.2.1 391 = .ok (.invokevirtual 35, 3) := by decide +kernel
theorem dL_law_394 : decode mL_law.2.1 394 = .ok (.if_icmp .eq 1495, 3) := by decide +kernel
theorem dL_law_397 : decode mL_law.2.1 397 = .ok (.iconst 0, 1) := by decide +kernel
theorem dL_law_398 : decode mL_law.2.1 398 = .ok (.ireturn, 1) := by decide +kernel
theorem dL_law_399 : decode mL_law.2.1 399 = .ok (.aload_n 1, 1) := by decide +kernel
theorem dL_law_400 : decode mL_law.2.1 400 = .ok (.aload_n 0, 1) := by decide +kernel
theorem dL_law_401 : decode mL_law.2.1 401 = .ok (.iload_n 3, 1) := by decide +kernel
theorem dL_law_402 : decode mL_law.2.1 402 = .ok (.iconst 1, 1) := by decide +kernel
theorem dL_law_403 : decode mL_law.2.1 403 = .ok (.iadd, 1) := by decide +kernel
theorem dL_law_404 : decode mL_law.2.1 404 = .ok (.iaload, 1) := by decide +kernel
theorem dL_law_405 : decode mL_law.2.1 405 = .ok (.aload_n 0, 1) := by decide +kernel
theorem dL_law_406 : decode mL_law.2.1 406 = .ok (.iload_n 3, 1) := by decide +kernel
theorem dL_law_407 : decode mL_law.2.1 407 = .ok (.iconst 2, 1) := by decide +kernel
theorem dL_law_408 : decode mL_law.2.1 408 = .ok (.iadd, 1) := by decide +kernel
theorem dL_law_409 : decode mL_law.2.1 409 = .ok (.iaload, 1) := by decide +kernel
theorem dL_law_410 : decode mL_law.2.1 410 = .ok (.invokevirtual 36, 3) := by decide +kernel
theorem dL_law_413 : decode mL_law.2.1 413 = .ok (.aload_n 2, 1) := by decide +kernel
theorem dL_law_414 : decode mL_law.2.1 414 = .ok (.aload_n 0, 1) := by decide +kernel
theorem dL_law_415 : decode mL_law.2.1 415 = .ok (.iload_n 3, 1) := by decide +kernel
theorem dL_law_416 : decode mL_law.2.1 416 = .ok (.iconst 1, 1) := by decide +kernel
theorem dL_law_417 : decode mL_law.2.1 417 = .ok (.iadd, 1) := by decide +kernel
theorem dL_law_418 : decode mL_law.2.1 418 = .ok (.iaload, 1) := by decide +kernel
theorem dL_law_419 : decode mL_law.2.1 419 = .ok (.aload_n 0, 1) := by decide +kernel
theorem dL_law_420 : decode mL_law.2.1 420 = .ok (.iload_n 3, 1) := by decide +kernel
theorem dL_law_421 : decode mL_law.2.1 421 = .ok (.iconst 2, 1) := by decide +kernel
theorem dL_law_422 : decode mL_law.2.1 422 = .ok (.iadd, 1) := by decide +kernel
theorem dL_law_423 : decode mL_law.2.1 423 = .ok (.iaload, 1) := by decide +kernel
theorem dL_law_424 : decode mL_law.2.1 424 = .ok (.invokevirtual 39, 3) := by decide +kernel
theorem dL_law_427 : decode mL_law.2.1 427 = .ok (.if_icmp .eq 1462, 3) := by decide +kernel
theorem dL_law_430 : decode mL_law.2.1 430 = .ok (.iconst 0, 1) := by decide +kernel
theorem dL_law_431 : decode mL_law.2.1 431 = .ok (.ireturn, 1) := by decide +kernel
theorem dL_law_432 : decode mL_law.2.1 432 = .ok (.aload_n 1, 1) := by decide +kernel
theorem dL_law_433 : decode mL_law.2.1 433 = .ok (.aload_n 0, 1) := by decide +kernel
theorem dL_law_434 : decode mL_law.2.1 434 = .ok (.iload_n 3, 1) := by decide +kernel
theorem dL_law_435 : decode mL_law.2.1 435 = .ok (.iconst 1, 1) := by decide +kernel
theorem dL_law_436 : decode mL_law.2.1 436 = .ok (.iadd, 1) := by decide +kernel
theorem dL_law_437 : decode mL_law.2.1 437 = .ok (.iaload, 1) := by decide +kernel
theorem dL_law_438 : decode mL_law.2.1 438 = .ok (.aload_n 0, 1) := by decide +kernel
theorem dL_law_439 : decode mL_law.2.1 439 = .ok (.iload_n 3, 1) := by decide +kernel
theorem dL_law_440 : decode mL_law.2.1 440 = .ok (.iconst 2, 1) := by decide +kernel
theorem dL_law_441 : decode mL_law.2.1 441 = .ok (.iadd, 1) := by decide +kernel
theorem dL_law_442 : decode mL_law.2.1 442 = .ok (.iaload, 1) := by decide +kernel
theorem dL_law_443 : decode mL_law.2.1 443 = .ok (.aload_n 0, 1) := by decide +kernel
theorem dL_law_444 : decode mL_law.2.1 444 = .ok (.iload_n 3, 1) := by decide +kernel
theorem dL_law_445 : decode mL_law.2.1 445 = .ok (.iconst 3, 1) := by decide +kernel
theorem dL_law_446 : decode mL_law.2.1 446 = .ok (.iadd, 1) := by decide +kernel
theorem dL_law_447 : decode mL_law.2.1 447 = .ok (.iaload, 1) := by decide +kernel
theorem dL_law_448 : decode mL_law.2.1 448 = .ok (.invokevirtual 40, 3) := by decide +kernel
theorem dL_law_451 : decode mL_law.2.1 451 = .ok (.aload_n 2, 1) := by decide +kernel
theorem dL_law_452 : decode mL_law.2.1 452 = .ok (.aload_n 0, 1) := by decide +kernel
theorem dL_law_453 : decode mL_law.2.1 453 = .ok (.iload_n 3, 1) := by decide +kernel
theorem dL_law_454 : decode mL_law.2.1 454 = .ok (.iconst 1, 1) := by decide +kernel
theorem dL_law_455 : decode mL_law.2.1 455 = .ok (.iadd, 1) := by decide +kernel
theorem dL_law_456 : decode mL_law.2.1 456 = .ok (.iaload, 1) := by decide +kernel
theorem dL_law_457 : decode mL_law.2.1 457 = .ok (.aload_n 0, 1) := by decide +kernel
theorem dL_law_458 : decode mL_law.2.1 458 = .ok (.iload_n 3, 1) := by decide +kernel
theorem dL_law_459 : decode mL_law.2.1 459 = .ok (.iconst 2, 1) := by decide +kernel
theorem dL_law_460 : decode mL_law.2.1 460 = .ok (.iadd, 1) := by decide +kernel
theorem dL_law_461 : decode mL_law.2.1 461 = .ok (.iaload, 1) := by decide +kernel
theorem dL_law_462 : decode mL_law.2.1 462 = .ok (.aload_n 0, 1) := by decide +kernel
theorem dL_law_463 : decode mL_law.2.1 463 = .ok (.iload_n 3, 1) := by decide +kernel
theorem dL_law_464 : decode mL_law.2.1 464 = .ok (.iconst 3, 1) := by decide +kernel
theorem dL_law_465 : decode mL_law.2.1 465 = .ok (.iadd, 1) := by decide +kernel
theorem dL_law_466 : decode mL_law.2.1 466 = .ok (.iaload, 1) := by decide +kernel
theorem dL_law_467 : decode mL_law.2.1 467 = .ok (.invokevirtual 44, 3) := by decide +kernel
theorem dL_law_470 : decode mL_law.2.1 470 = .ok (.lcmp, 1) := by decide +kernel
theorem dL_law_471 : decode mL_law.2.1 471 = .ok (.ifCond .eq 1418, 3) := by decide +kernel
theorem dL_law_474 : decode mL_law.2.1 474 = .ok (.iconst 0, 1) := by decide +kernel
theorem dL_law_475 : decode mL_law.2.1 475 = .ok (.ireturn, 1) := by decide +kernel
theorem dL_law_476 : decode mL_law.2.1 476 = .ok (.aload_n 1, 1) := by decide +kernel
theorem dL_law_477 : decode mL_law.2.1 477 = .ok (.aload_n 0, 1) := by decide +kernel
theorem dL_law_478 : decode mL_law.2.1 478 = .ok (.iload_n 3, 1) := by decide +kernel
theorem dL_law_479 : decode mL_law.2.1 479 = .ok (.iconst 1, 1) := by decide +kernel
theorem dL_law_480 : decode mL_law.2.1 480 = .ok (.iadd, 1) := by decide +kernel
theorem dL_law_481 : decode mL_law.2.1 481 = .ok (.iaload, 1) := by decide +kernel
theorem dL_law_482 : decode mL_law.2.1 482 = .ok (.aload_n 0, 1) := by decide +kernel
theorem dL_law_483 : decode mL_law.2.1 483 = .ok (.iload_n 3, 1) := by decide +kernel
theorem dL_law_484 : decode mL_law.2.1 484 = .ok (.iconst 2, 1) := by decide +kernel
theorem dL_law_485 : decode mL_law.2.1 485 = .ok (.iadd, 1) := by decide +kernel
theorem dL_law_486 : decode mL_law.2.1 486 = .ok (.iaload, 1) := by decide +kernel
theorem dL_law_487 : decode mL_law.2.1 487 = .ok (.invokevirtual 45, 3) := by decide +kernel
theorem dL_law_490 : decode mL_law.2.1 490 = .ok (.aload_n 2, 1) := by decide +kernel
theorem dL_law_491 : decode mL_law.2.1 491 = .ok (.aload_n 0, 1) := by decide +kernel
theorem dL_law_492 : decode mL_law.2.1 492 = .ok (.iload_n 3, 1) := by decide +kernel
theorem dL_law_493 : decode mL_law.2.1 493 = .ok (.iconst 1, 1) := by decide +kernel
theorem dL_law_494 : decode mL_law.2.1 494 = .ok (.iadd, 1) := by decide +kernel
theorem dL_law_495 : decode mL_law.2.1 495 = .ok (.iaload, 1) := by decide +kernel
theorem dL_law_496 : decode mL_law.2.1 496 = .ok (.aload_n 0, 1) := by decide +kernel
theorem dL_law_497 : decode mL_law.2.1 497 = .ok (.iload_n 3, 1) := by decide +kernel
theorem dL_law_498 : decode mL_law.2.1 498 = .ok (.iconst 2, 1) := by decide +kernel
theorem dL_law_499 : decode mL_law.2.1 499 = .ok (.iadd, 1) := by decide +kernel
theorem dL_law_500 : decode mL_law.2.1 500 = .ok (.iaload, 1) := by decide +kernel
theorem dL_law_501 : decode mL_law.2.1 501 = .ok (.invokevirtual 49, 3) := by decide +kernel
theorem dL_law_504 : decode mL_law.2.1 504 = .ok (.lcmp, 1) := by decide +kernel
theorem dL_law_505 : decode mL_law.2.1 505 = .ok (.ifCond .eq 1384, 3) := by decide +kernel
theorem dL_law_508 : decode mL_law.2.1 508 = .ok (.iconst 0, 1) := by decide +kernel
theorem dL_law_509 : decode mL_law.2.1 509 = .ok (.ireturn, 1) := by decide +kernel
theorem dL_law_510 : decode mL_law.2.1 510 = .ok (.aload_n 1, 1) := by decide +kernel
theorem dL_law_511 : decode mL_law.2.1 511 = .ok (.invokevirtual 50, 3) := by decide +kernel
theorem dL_law_514 : decode mL_law.2.1 514 = .ok (.aload_n 2, 1) := by decide +kernel
theorem dL_law_515 : decode mL_law.2.1 515 = .ok (.invokevirtual 54, 3) := by decide +kernel
theorem dL_law_518 : decode mL_law.2.1 518 = .ok (.if_icmp .eq 1371, 3) := by decide +kernel
theorem dL_law_521 : decode mL_law.2.1 521 = .ok (.iconst 0, 1) := by decide +kernel
theorem dL_law_522 : decode mL_law.2.1 522 = .ok (.ireturn, 1) := by decide +kernel
theorem dL_law_523 : decode mL_law.2.1 523 = .ok (.aload_n 1, 1) := by decide +kernel
theorem dL_law_524 : decode mL_law.2.1 524 = .ok (.aload_n 0, 1) := by decide +kernel
theorem dL_law_525 : decode mL_law.2.1 525 = .ok (.iload_n 3, 1) := by decide +kernel
theorem dL_law_526 : decode mL_law.2.1 526 = .ok (.iconst 1, 1) := by decide +kernel
theorem dL_law_527 : decode mL_law.2.1 527 = .ok (.iadd, 1) := by decide +kernel
theorem dL_law_528 : decode mL_law.2.1 528 = .ok (.iaload, 1) := by decide +kernel
theorem dL_law_529 : decode mL_law.2.1 529 = .ok (.aload_n 0, 1) := by decide +kernel
theorem dL_law_530 : decode mL_law.2.1 530 = .ok (.iload_n 3, 1) := by decide +kernel
theorem dL_law_531 : decode mL_law.2.1 531 = .ok (.iconst 2, 1) := by decide +kernel
theorem dL_law_532 : decode mL_law.2.1 532 = .ok (.iadd, 1) := by decide +kernel
theorem dL_law_533 : decode mL_law.2.1 533 = .ok (.iaload, 1) := by decide +kernel
theorem dL_law_534 : decode mL_law.2.1 534 = .ok (.invokevirtual 55, 3) := by decide +kernel
theorem dL_law_537 : decode mL_law.2.1 537 = .ok (.aload_n 2, 1) := by decide +kernel
theorem dL_law_538 : decode mL_law.2.1 538 = .ok (.aload_n 0, 1) := by decide +kernel
theorem dL_law_539 : decode mL_law.2.1 539 = .ok (.iload_n 3, 1) := by decide +kernel
theorem dL_law_540 : decode mL_law.2.1 540 = .ok (.iconst 1, 1) := by decide +kernel
theorem dL_law_541 : decode mL_law.2.1 541 = .ok (.iadd, 1) := by decide +kernel
theorem dL_law_542 : decode mL_law.2.1 542 = .ok (.iaload, 1) := by decide +kernel
theorem dL_law_543 : decode mL_law.2.1 543 = .ok (.aload_n 0, 1) := by decide +kernel
theorem dL_law_544 : decode mL_law.2.1 544 = .ok (.iload_n 3, 1) := by decide +kernel
theorem dL_law_545 : decode mL_law.2.1 545 = .ok (.iconst 2, 1) := by decide +kernel
theorem dL_law_546 : decode mL_law.2.1 546 = .ok (.iadd, 1) := by decide +kernel
theorem dL_law_547 : decode mL_law.2.1 547 = .ok (.iaload, 1) := by decide +kernel
theorem dL_law_548 : decode mL_law.2.1 548 = .ok (.invokevirtual 58, 3) := by decide +kernel
theorem dL_law_551 : decode mL_law.2.1 551 = .ok (.if_icmp .eq 1338, 3) := by decide +kernel
theorem dL_law_554 : decode mL_law.2.1 554 = .ok (.iconst 0, 1) := by decide +kernel
theorem dL_law_555 : decode mL_law.2.1 555 = .ok (.ireturn, 1) := by decide +kernel
theorem dL_law_556 : decode mL_law.2.1 556 = .ok (.aload_n 1, 1) := by decide +kernel
theorem dL_law_557 : decode mL_law.2.1 557 = .ok (.aload_n 0, 1) := by decide +kernel
theorem dL_law_558 : decode mL_law.2.1 558 = .ok (.iload_n 3, 1) := by decide +kernel
theorem dL_law_559 : decode mL_law.2.1 559 = .ok (.iconst 1, 1) := by decide +kernel
theorem dL_law_560 : decode mL_law.2.1 560 = .ok (.iadd, 1) := by decide +kernel
theorem dL_law_561 : decode mL_law.2.1 561 = .ok (.iaload, 1) := by decide +kernel
theorem dL_law_562 : decode mL_law.2.1 562 = .ok (.invokevirtual 59, 3) := by decide +kernel
theorem dL_law_565 : decode mL_law.2.1 565 = .ok (.aload_n 2, 1) := by decide +kernel
theorem dL_law_566 : decode mL_law.2.1 566 = .ok (.aload_n 0, 1) := by decide +kernel
theorem dL_law_567 : decode mL_law.2.1 567 = .ok (.iload_n 3, 1) := by decide +kernel
theorem dL_law_568 : decode mL_law.2.1 568 = .ok (.iconst 1, 1) := by decide +kernel
theorem dL_law_569 : decode mL_law.2.1 569 = .ok (.iadd, 1) := by decide +kernel
theorem dL_law_570 : decode mL_law.2.1 570 = .ok (.iaload, 1) := by decide +kernel
theorem dL_law_571 : decode mL_law.2.1 571 = .ok (.invokevirtual 62, 3) := by decide +kernel
theorem dL_law_574 : decode mL_law.2.1 574 = .ok (.if_icmp .eq 1315, 3) := by decide +kernel
theorem dL_law_577 : decode mL_law.2.1 577 = .ok (.iconst 0, 1) := by decide +kernel
theorem dL_law_578 : decode mL_law.2.1 578 = .ok (.ireturn, 1) := by decide +kernel
theorem dL_law_579 : decode mL_law.2.1 579 = .ok (.aload_n 1, 1) := by decide +kernel
theorem dL_law_580 : decode mL_law.2.1 580 = .ok (.aload_n 0, 1) := by decide +kernel
theorem dL_law_581 : decode mL_law.2.1 581 = .ok (.iload_n 3, 1) := by decide +kernel
theorem dL_law_582 : decode mL_law.2.1 582 = .ok (.iconst 1, 1) := by decide +kernel
theorem dL_law_583 : decode mL_law.2.1 583 = .ok (.iadd, 1) := by decide +kernel
theorem dL_law_584 : decode mL_law.2.1 584 = .ok (.iaload, 1) := by decide +kernel
theorem dL_law_585 : decode mL_law.2.1 585 = .ok (.aload_n 0, 1) := by decide +kernel
theorem dL_law_586 : decode mL_law.2.1 586 = .ok (.iload_n 3, 1) := by decide +kernel
theorem dL_law_587 : decode mL_law.2.1 587 = .ok (.iconst 2, 1) := by decide +kernel
theorem dL_law_588 : decode mL_law.2.1 588 = .ok (.iadd, 1) := by decide +kernel
theorem dL_law_589 : decode mL_law.2.1 589 = .ok (.iaload, 1) := by decide +kernel
theorem dL_law_590 : decode mL_law.2.1 590 = .ok (.invokevirtual 63, 3) := by decide +kernel
theorem dL_law_593 : decode mL_law.2.1 593 = .ok (.aload_n 2, 1) := by decide +kernel
theorem dL_law_594 : decode mL_law.2.1 594 = .ok (.aload_n 0, 1) := by decide +kernel
theorem dL_law_595 : decode mL_law.2.1 595 = .ok (.iload_n 3, 1) := by decide +kernel
theorem dL_law_596 : decode mL_law.2.1 596 = .ok (.iconst 1, 1) := by decide +kernel
theorem dL_law_597 : decode mL_law.2.1 597 = .ok (.iadd, 1) := by decide +kernel
theorem dL_law_598 : decode mL_law.2.1 598 = .ok (.iaload, 1) := by decide +kernel
theorem dL_law_599 : decode mL_law.2.1 599 = .ok (.aload_n 0, 1) := by decide +kernel
theorem dL_law_600 : decode mL_law.2.1 600 = .ok (.iload_n 3, 1) := by decide +kernel
theorem dL_law_601 : decode mL_law.2.1 601 = .ok (.iconst 2, 1) := by decide +kernel
theorem dL_law_602 : decode mL_law.2.1 602 = .ok (.iadd, 1) := by decide +kernel
theorem dL_law_603 : decode mL_law.2.1 603 = .ok (.iaload, 1) := by decide +kernel
theorem dL_law_604 : decode mL_law.2.1 604 = .ok (.invokevirtual 66, 3) := by decide +kernel
theorem dL_law_607 : decode mL_law.2.1 607 = .ok (.lcmp, 1) := by decide +kernel
theorem dL_law_608 : decode mL_law.2.1 608 = .ok (.ifCond .eq 1281, 3) := by decide +kernel
theorem dL_law_611 : decode mL_law.2.1 611 = .ok (.iconst 0, 1) := by decide +kernel
theorem dL_law_612 : decode mL_law.2.1 612 = .ok (.ireturn, 1) := by decide +kernel
theorem dL_law_613 : decode mL_law.2.1 613 = .ok (.aload_n 1, 1) := by decide +kernel
theorem dL_law_614 : decode mL_law.2.1 614 = .ok (.aload_n 0, 1) := by decide +kernel
theorem dL_law_615 : decode mL_law.2.1 615 = .ok (.iload_n 3, 1) := by decide +kernel
theorem dL_law_616 : decode mL_law.2.1 616 = .ok (.iconst 1, 1) := by decide +kernel
theorem dL_law_617 : decode mL_law.2.1 617 = .ok (.iadd, 1) := by decide +kernel
theorem dL_law_618 : decode mL_law.2.1 618 = .ok (.iaload, 1) := by decide +kernel
theorem dL_law_619 : decode mL_law.2.1 619 = .ok (.aload_n 0, 1) := by decide +kernel
theorem dL_law_620 : decode mL_law.2.1 620 = .ok (.iload_n 3, 1) := by decide +kernel
theorem dL_law_621 : decode mL_law.2.1 621 = .ok (.iconst 2, 1) := by decide +kernel
theorem dL_law_622 : decode mL_law.2.1 622 = .ok (.iadd, 1) := by decide +kernel
theorem dL_law_623 : decode mL_law.2.1 623 = .ok (.iaload, 1) := by decide +kernel
theorem dL_law_624 : decode mL_law.2.1 624 = .ok (.invokevirtual 67, 3) := by decide +kernel
theorem dL_law_627 : decode mL_law.2.1 627 = .ok (.aload_n 2, 1) := by decide +kernel
theorem dL_law_628 : decode mL_law.2.1 628 = .ok (.aload_n 0, 1) := by decide +kernel
theorem dL_law_629 : decode mL_law.2.1 629 = .ok (.iload_n 3, 1) := by decide +kernel
theorem dL_law_630 : decode mL_law.2.1 630 = .ok (.iconst 1, 1) := by decide +kernel
theorem dL_law_631 : decode mL_law.2.1 631 = .ok (.iadd, 1) := by decide +kernel
theorem dL_law_632 : decode mL_law.2.1 632 = .ok (.iaload, 1) := by decide +kernel
theorem dL_law_633 : decode mL_law.2.1 633 = .ok (.aload_n 0, 1) := by decide +kernel
theorem dL_law_634 : decode mL_law.2.1 634 = .ok (.iload_n 3, 1) := by decide +kernel
theorem dL_law_635 : decode mL_law.2.1 635 = .ok (.iconst 2, 1) := by decide +kernel
theorem dL_law_636 : decode mL_law.2.1 636 = .ok (.iadd, 1) := by decide +kernel
theorem dL_law_637 : decode mL_law.2.1 637 = .ok (.iaload, 1) := by decide +kernel
theorem dL_law_638 : decode mL_law.2.1 638 = .ok (.invokevirtual 70, 3) := by decide +kernel
theorem dL_law_641 : decode mL_law.2.1 641 = .ok (.if_icmp .eq 1248, 3) := by decide +kernel
theorem dL_law_644 : decode mL_law.2.1 644 = .ok (.iconst 0, 1) := by decide +kernel
theorem dL_law_645 : decode mL_law.2.1 645 = .ok (.ireturn, 1) := by decide +kernel
theorem dL_law_646 : decode mL_law.2.1 646 = .ok (.aload_n 1, 1) := by decide +kernel
theorem dL_law_647 : decode mL_law.2.1 647 = .ok (.aload_n 0, 1) := by decide +kernel
theorem dL_law_648 : decode mL_law.2.1 648 = .ok (.iload_n 3, 1) := by decide +kernel
theorem dL_law_649 : decode mL_law.2.1 649 = .ok (.iconst 1, 1) := by decide +kernel
theorem dL_law_650 : decode mL_law.2.1 650 = .ok (.iadd, 1) := by decide +kernel
theorem dL_law_651 : decode mL_law.2.1 651 = .ok (.iaload, 1) := by decide +kernel
theorem dL_law_652 : decode mL_law.2.1 652 = .ok (.aload_n 0, 1) := by decide +kernel
theorem dL_law_653 : decode mL_law.2.1 653 = .ok (.iload_n 3, 1) := by decide +kernel
theorem dL_law_654 : decode mL_law.2.1 654 = .ok (.iconst 2, 1) := by decide +kernel
theorem dL_law_655 : decode mL_law.2.1 655 = .ok (.iadd, 1) := by decide +kernel
theorem dL_law_656 : decode mL_law.2.1 656 = .ok (.iaload, 1) := by decide +kernel
theorem dL_law_657 : decode mL_law.2.1 657 = .ok (.aload_n 0, 1) := by decide +kernel
theorem dL_law_658 : decode mL_law.2.1 658 = .ok (.iload_n 3, 1) := by decide +kernel
theorem dL_law_659 : decode mL_law.2.1 659 = .ok (.iconst 3, 1) := by decide +kernel
theorem dL_law_660 : decode mL_law.2.1 660 = .ok (.iadd, 1) := by decide +kernel
theorem dL_law_661 : decode mL_law.2.1 661 = .ok (.iaload, 1) := by decide +kernel
theorem dL_law_662 : decode mL_law.2.1 662 = .ok (.invokevirtual 71, 3) := by decide +kernel
theorem dL_law_665 : decode mL_law.2.1 665 = .ok (.aload_n 2, 1) := by decide +kernel
theorem dL_law_666 : decode mL_law.2.1 666 = .ok (.aload_n 0, 1) := by decide +kernel
theorem dL_law_667 : decode mL_law.2.1 667 = .ok (.iload_n 3, 1) := by decide +kernel
theorem dL_law_668 : decode mL_law.2.1 668 = .ok (.iconst 1, 1) := by decide +kernel
theorem dL_law_669 : decode mL_law.2.1 669 = .ok (.iadd, 1) := by decide +kernel
theorem dL_law_670 : decode mL_law.2.1 670 = .ok (.iaload, 1) := by decide +kernel
theorem dL_law_671 : decode mL_law.2.1 671 = .ok (.aload_n 0, 1) := by decide +kernel
theorem dL_law_672 : decode mL_law.2.1 672 = .ok (.iload_n 3, 1) := by decide +kernel
theorem dL_law_673 : decode mL_law.2.1 673 = .ok (.iconst 2, 1) := by decide +kernel
theorem dL_law_674 : decode mL_law.2.1 674 = .ok (.iadd, 1) := by decide +kernel
theorem dL_law_675 : decode mL_law.2.1 675 = .ok (.iaload, 1) := by decide +kernel
theorem dL_law_676 : decode mL_law.2.1 676 = .ok (.aload_n 0, 1) := by decide +kernel
theorem dL_law_677 : decode mL_law.2.1 677 = .ok (.iload_n 3, 1) := by decide +kernel
theorem dL_law_678 : decode mL_law.2.1 678 = .ok (.iconst 3, 1) := by decide +kernel
theorem dL_law_679 : decode mL_law.2.1 679 = .ok (.iadd, 1) := by decide +kernel
theorem dL_law_680 : decode mL_law.2.1 680 = .ok (.iaload, 1) := by decide +kernel
theorem dL_law_681 : decode mL_law.2.1 681 = .ok (.invokevirtual 74, 3) := by decide +kernel
theorem dL_law_684 : decode mL_law.2.1 684 = .ok (.if_icmp .eq 1205, 3) := by decide +kernel
theorem dL_law_687 : decode mL_law.2.1 687 = .ok (.iconst 0, 1) := by decide +kernel
theorem dL_law_688 : decode mL_law.2.1 688 = .ok (.ireturn, 1) := by decide +kernel
theorem dL_law_689 : decode mL_law.2.1 689 = .ok (.aload_n 1, 1) := by decide +kernel
theorem dL_law_690 : decode mL_law.2.1 690 = .ok (.aload_n 0, 1) := by decide +kernel
theorem dL_law_691 : decode mL_law.2.1 691 = .ok (.iload_n 3, 1) := by decide +kernel
theorem dL_law_692 : decode mL_law.2.1 692 = .ok (.iconst 1, 1) := by decide +kernel
theorem dL_law_693 : decode mL_law.2.1 693 = .ok (.iadd, 1) := by decide +kernel
theorem dL_law_694 : decode mL_law.2.1 694 = .ok (.iaload, 1) := by decide +kernel
theorem dL_law_695 : decode mL_law.2.1 695 = .ok (.aload_n 0, 1) := by decide +kernel
theorem dL_law_696 : decode mL_law.2.1 696 = .ok (.iload_n 3, 1) := by decide +kernel
theorem dL_law_697 : decode mL_law.2.1 697 = .ok (.iconst 2, 1) := by decide +kernel
theorem dL_law_698 : decode mL_law.2.1 698 = .ok (.iadd, 1) := by decide +kernel
theorem dL_law_699 : decode mL_law.2.1 699 = .ok (.iaload, 1) := by decide +kernel
theorem dL_law_700 : decode mL_law.2.1 700 = .ok (.invokevirtual 75, 3) := by decide +kernel
theorem dL_law_703 : decode mL_law.2.1 703 = .ok (.aload_n 2, 1) := by decide +kernel
theorem dL_law_704 : decode mL_law.2.1 704 = .ok (.aload_n 0, 1) := by decide +kernel
theorem dL_law_705 : decode mL_law.2.1 705 = .ok (.iload_n 3, 1) := by decide +kernel
theorem dL_law_706 : decode mL_law.2.1 706 = .ok (.iconst 1, 1) := by decide +kernel
theorem dL_law_707 : decode mL_law.2.1 707 = .ok (.iadd, 1) := by decide +kernel
theorem dL_law_708 : decode mL_law.2.1 708 = .ok (.iaload, 1) := by decide +kernel
theorem dL_law_709 : decode mL_law.2.1 709 = .ok (.aload_n 0, 1) := by decide +kernel
theorem dL_law_710 : decode mL_law.2.1 710 = .ok (.iload_n 3, 1) := by decide +kernel
theorem dL_law_711 : decode mL_law.2.1 711 = .ok (.iconst 2, 1) := by decide +kernel
theorem dL_law_712 : decode mL_law.2.1 712 = .ok (.iadd, 1) := by decide +kernel
theorem dL_law_713 : decode mL_law.2.1 713 = .ok (.iaload, 1) := by decide +kernel
theorem dL_law_714 : decode mL_law.2.1 714 = .ok (.invokevirtual 78, 3) := by decide +kernel
theorem dL_law_717 : decode mL_law.2.1 717 = .ok (.if_icmp .eq 1172, 3) := by decide +kernel
theorem dL_law_720 : decode mL_law.2.1 720 = .ok (.iconst 0, 1) := by decide +kernel
theorem dL_law_721 : decode mL_law.2.1 721 = .ok (.ireturn, 1) := by decide +kernel
theorem dL_law_722 : decode mL_law.2.1 722 = .ok (.aload_n 1, 1) := by decide +kernel
theorem dL_law_723 : decode mL_law.2.1 723 = .ok (.aload_n 0, 1) := by decide +kernel
theorem dL_law_724 : decode mL_law.2.1 724 = .ok (.iload_n 3, 1) := by decide +kernel
theorem dL_law_725 : decode mL_law.2.1 725 = .ok (.iconst 1, 1) := by decide +kernel
theorem dL_law_726 : decode mL_law.2.1 726 = .ok (.iadd, 1) := by decide +kernel
theorem dL_law_727 : decode mL_law.2.1 727 = .ok (.iaload, 1) := by decide +kernel
theorem dL_law_728 : decode mL_law.2.1 728 = .ok (.aload_n 0, 1) := by decide +kernel
theorem dL_law_729 : decode mL_law.2.1 729 = .ok (.iload_n 3, 1) := by decide +kernel
theorem dL_law_730 : decode mL_law.2.1 730 = .ok (.iconst 2, 1) := by decide +kernel
theorem dL_law_731 : decode mL_law.2.1 731 = .ok (.iadd, 1) := by decide +kernel
theorem dL_law_732 : decode mL_law.2.1 732 = .ok (.iaload, 1) := by decide +kernel
theorem dL_law_733 : decode mL_law.2.1 733 = .ok (.aload_n 0, 1) := by decide +kernel
theorem dL_law_734 : decode mL_law.2.1 734 = .ok (.iload_n 3, 1) := by decide +kernel
theorem dL_law_735 : decode mL_law.2.1 735 = .ok (.iconst 3, 1) := by decide +kernel
theorem dL_law_736 : decode mL_law.2.1 736 = .ok (.iadd, 1) := by decide +kernel
theorem dL_law_737 : decode mL_law.2.1 737 = .ok (.iaload, 1) := by decide +kernel
theorem dL_law_738 : decode mL_law.2.1 738 = .ok (.invokevirtual 79, 3) := by decide +kernel
theorem dL_law_741 : decode mL_law.2.1 741 = .ok (.aload_n 2, 1) := by decide +kernel
theorem dL_law_742 : decode mL_law.2.1 742 = .ok (.aload_n 0, 1) := by decide +kernel
theorem dL_law_743 : decode mL_law.2.1 743 = .ok (.iload_n 3, 1) := by decide +kernel
theorem dL_law_744 : decode mL_law.2.1 744 = .ok (.iconst 1, 1) := by decide +kernel
theorem dL_law_745 : decode mL_law.2.1 745 = .ok (.iadd, 1) := by decide +kernel
theorem dL_law_746 : decode mL_law.2.1 746 = .ok (.iaload, 1) := by decide +kernel
theorem dL_law_747 : decode mL_law.2.1 747 = .ok (.aload_n 0, 1) := by decide +kernel
theorem dL_law_748 : decode mL_law.2.1 748 = .ok (.iload_n 3, 1) := by decide +kernel
theorem dL_law_749 : decode mL_law.2.1 749 = .ok (.iconst 2, 1) := by decide +kernel
theorem dL_law_750 : decode mL_law.2.1 750 = .ok (.iadd, 1) := by decide +kernel
theorem dL_law_751 : decode mL_law.2.1 751 = .ok (.iaload, 1) := by decide +kernel
theorem dL_law_752 : decode mL_law.2.1 752 = .ok (.aload_n 0, 1) := by decide +kernel
theorem dL_law_753 : decode mL_law.2.1 753 = .ok (.iload_n 3, 1) := by decide +kernel
theorem dL_law_754 : decode mL_law.2.1 754 = .ok (.iconst 3, 1) := by decide +kernel
theorem dL_law_755 : decode mL_law.2.1 755 = .ok (.iadd, 1) := by decide +kernel
theorem dL_law_756 : decode mL_law.2.1 756 = .ok (.iaload, 1) := by decide +kernel
theorem dL_law_757 : decode mL_law.2.1 757 = .ok (.invokevirtual 82, 3) := by decide +kernel
theorem dL_law_760 : decode mL_law.2.1 760 = .ok (.if_icmp .eq 1129, 3) := by decide +kernel
theorem dL_law_763 : decode mL_law.2.1 763 = .ok (.iconst 0, 1) := by decide +kernel
theorem dL_law_764 : decode mL_law.2.1 764 = .ok (.ireturn, 1) := by decide +kernel
theorem dL_law_765 : decode mL_law.2.1 765 = .ok (.aload_n 1, 1) := by decide +kernel
theorem dL_law_766 : decode mL_law.2.1 766 = .ok (.aload_n 0, 1) := by decide +kernel
theorem dL_law_767 : decode mL_law.2.1 767 = .ok (.iload_n 3, 1) := by decide +kernel
theorem dL_law_768 : decode mL_law.2.1 768 = .ok (.iconst 1, 1) := by decide +kernel
theorem dL_law_769 : decode mL_law.2.1 769 = .ok (.iadd, 1) := by decide +kernel
theorem dL_law_770 : decode mL_law.2.1 770 = .ok (.iaload, 1) := by decide +kernel
theorem dL_law_771 : decode mL_law.2.1 771 = .ok (.invokevirtual 83, 3) := by decide +kernel
theorem dL_law_774 : decode mL_law.2.1 774 = .ok (.aload_n 2, 1) := by decide +kernel
theorem dL_law_775 : decode mL_law.2.1 775 = .ok (.aload_n 0, 1) := by decide +kernel
theorem dL_law_776 : decode mL_law.2.1 776 = .ok (.iload_n 3, 1) := by decide +kernel
theorem dL_law_777 : decode mL_law.2.1 777 = .ok (.iconst 1, 1) := by decide +kernel
theorem dL_law_778 : decode mL_law.2.1 778 = .ok (.iadd, 1) := by decide +kernel
theorem dL_law_779 : decode mL_law.2.1 779 = .ok (.iaload, 1) := by decide +kernel
theorem dL_law_780 : decode mL_law.2.1 780 = .ok (.invokevirtual 86, 3) := by decide +kernel
theorem dL_law_783 : decode mL_law.2.1 783 = .ok (.if_icmp .eq 1106, 3) := by decide +kernel
theorem dL_law_786 : decode mL_law.2.1 786 = .ok (.iconst 0, 1) := by decide +kernel
theorem dL_law_787 : decode mL_law.2.1 787 = .ok (.ireturn, 1) := by decide +kernel
theorem dL_law_788 : decode mL_law.2.1 788 = .ok (.aload_n 1, 1) := by decide +kernel
theorem dL_law_789 : decode mL_law.2.1 789 = .ok (.aload_n 0, 1) := by decide +kernel
theorem dL_law_790 : decode mL_law.2.1 790 = .ok (.iload_n 3, 1) := by decide +kernel
theorem dL_law_791 : decode mL_law.2.1 791 = .ok (.iconst 1, 1) := by decide +kernel
theorem dL_law_792 : decode mL_law.2.1 792 = .ok (.iadd, 1) := by decide +kernel
theorem dL_law_793 : decode mL_law.2.1 793 = .ok (.iaload, 1) := by decide +kernel
theorem dL_law_794 : decode mL_law.2.1 794 = .ok (.invokevirtual 87, 3) := by decide +kernel
theorem dL_law_797 : decode mL_law.2.1 797 = .ok (.aload_n 2, 1) := by decide +kernel
theorem dL_law_798 : decode mL_law.2.1 798 = .ok (.aload_n 0, 1) := by decide +kernel
theorem dL_law_799 : decode mL_law.2.1 799 = .ok (.iload_n 3, 1) := by decide +kernel
theorem dL_law_800 : decode mL_law.2.1 800 = .ok (.iconst 1, 1) := by decide +kernel
theorem dL_law_801 : decode mL_law.2.1 801 = .ok (.iadd, 1) := by decide +kernel
theorem dL_law_802 : decode mL_law.2.1 802 = .ok (.iaload, 1) := by decide +kernel
theorem dL_law_803 : decode mL_law.2.1 803 = .ok (.invokevirtual 90, 3) := by decide +kernel
theorem dL_law_806 : decode mL_law.2.1 806 = .ok (.if_icmp .eq 1083, 3) := by decide +kernel
theorem dL_law_809 : decode mL_law.2.1 809 = .ok (.iconst 0, 1) := by decide +kernel
theorem dL_law_810 : decode mL_law.2.1 810 = .ok (.ireturn, 1) := by decide +kernel
theorem dL_law_811 : decode mL_law.2.1 811 = .ok (.aload_n 1, 1) := by decide +kernel
theorem dL_law_812 : decode mL_law.2.1 812 = .ok (.aload_n 0, 1) := by decide +kernel
theorem dL_law_813 : decode mL_law.2.1 813 = .ok (.iload_n 3, 1) := by decide +kernel
theorem dL_law_814 : decode mL_law.2.1 814 = .ok (.iconst 1, 1) := by decide +kernel
theorem dL_law_815 : decode mL_law.2.1 815 = .ok (.iadd, 1) := by decide +kernel
theorem dL_law_816 : decode mL_law.2.1 816 = .ok (.iaload, 1) := by decide +kernel
theorem dL_law_817 : decode mL_law.2.1 817 = .ok (.invokevirtual 91, 3) := by decide +kernel
theorem dL_law_820 : decode mL_law.2.1 820 = .ok (.aload_n 2, 1) := by decide +kernel
theorem dL_law_821 : decode mL_law.2.1 821 = .ok (.aload_n 0, 1) := by decide +kernel
theorem dL_law_822 : decode mL_law.2.1 822 = .ok (.iload_n 3, 1) := by decide +kernel
theorem dL_law_823 : decode mL_law.2.1 823 = .ok (.iconst 1, 1) := by decide +kernel
theorem dL_law_824 : decode mL_law.2.1 824 = .ok (.iadd, 1) := by decide +kernel
theorem dL_law_825 : decode mL_law.2.1 825 = .ok (.iaload, 1) := by decide +kernel
theorem dL_law_826 : decode mL_law.2.1 826 = .ok (.invokevirtual 94, 3) := by decide +kernel
theorem dL_law_829 : decode mL_law.2.1 829 = .ok (.if_icmp .eq 1060, 3) := by decide +kernel
theorem dL_law_832 : decode mL_law.2.1 832 = .ok (.iconst 0, 1) := by decide +kernel
theorem dL_law_833 : decode mL_law.2.1 833 = .ok (.ireturn, 1) := by decide +kernel
theorem dL_law_834 : decode mL_law.2.1 834 = .ok (.aload_n 1, 1) := by decide +kernel
theorem dL_law_835 : decode mL_law.2.1 835 = .ok (.aload_n 0, 1) := by decide +kernel
theorem dL_law_836 : decode mL_law.2.1 836 = .ok (.iload_n 3, 1) := by decide +kernel
theorem dL_law_837 : decode mL_law.2.1 837 = .ok (.iconst 1, 1) := by decide +kernel
theorem dL_law_838 : decode mL_law.2.1 838 = .ok (.iadd, 1) := by decide +kernel
theorem dL_law_839 : decode mL_law.2.1 839 = .ok (.iaload, 1) := by decide +kernel
theorem dL_law_840 : decode mL_law.2.1 840 = .ok (.aload_n 0, 1) := by decide +kernel
theorem dL_law_841 : decode mL_law.2.1 841 = .ok (.iload_n 3, 1) := by decide +kernel
theorem dL_law_842 : decode mL_law.2.1 842 = .ok (.iconst 2, 1) := by decide +kernel
theorem dL_law_843 : decode mL_law.2.1 843 = .ok (.iadd, 1) := by decide +kernel
theorem dL_law_844 : decode mL_law.2.1 844 = .ok (.iaload, 1) := by decide +kernel
theorem dL_law_845 : decode mL_law.2.1 845 = .ok (.invokevirtual 95, 3) := by decide +kernel
theorem dL_law_848 : decode mL_law.2.1 848 = .ok (.aload_n 2, 1) := by decide +kernel
theorem dL_law_849 : decode mL_law.2.1 849 = .ok (.aload_n 0, 1) := by decide +kernel
theorem dL_law_850 : decode mL_law.2.1 850 = .ok (.iload_n 3, 1) := by decide +kernel
theorem dL_law_851 : decode mL_law.2.1 851 = .ok (.iconst 1, 1) := by decide +kernel
theorem dL_law_852 : decode mL_law.2.1 852 = .ok (.iadd, 1) := by decide +kernel
theorem dL_law_853 : decode mL_law.2.1 853 = .ok (.iaload, 1) := by decide +kernel
theorem dL_law_854 : decode mL_law.2.1 854 = .ok (.aload_n 0, 1) := by decide +kernel
theorem dL_law_855 : decode mL_law.2.1 855 = .ok (.iload_n 3, 1) := by decide +kernel
theorem dL_law_856 : decode mL_law.2.1 856 = .ok (.iconst 2, 1) := by decide +kernel
theorem dL_law_857 : decode mL_law.2.1 857 = .ok (.iadd, 1) := by decide +kernel
theorem dL_law_858 : decode mL_law.2.1 858 = .ok (.iaload, 1) := by decide +kernel
theorem dL_law_859 : decode mL_law.2.1 859 = .ok (.invokevirtual 98, 3) := by decide +kernel
theorem dL_law_862 : decode mL_law.2.1 862 = .ok (.if_icmp .eq 1027, 3) := by decide +kernel
theorem dL_law_865 : decode mL_law.2.1 865 = .ok (.iconst 0, 1) := by decide +kernel
theorem dL_law_866 : decode mL_law.2.1 866 = .ok (.ireturn, 1) := by decide +kernel
theorem dL_law_867 : decode mL_law.2.1 867 = .ok (.aload_n 1, 1) := by decide +kernel
theorem dL_law_868 : decode mL_law.2.1 868 = .ok (.aload_n 0, 1) := by decide +kernel
theorem dL_law_869 : decode mL_law.2.1 869 = .ok (.iload_n 3, 1) := by decide +kernel
theorem dL_law_870 : decode mL_law.2.1 870 = .ok (.iconst 1, 1) := by decide +kernel
theorem dL_law_871 : decode mL_law.2.1 871 = .ok (.iadd, 1) := by decide +kernel
theorem dL_law_872 : decode mL_law.2.1 872 = .ok (.iaload, 1) := by decide +kernel
theorem dL_law_873 : decode mL_law.2.1 873 = .ok (.aload_n 0, 1) := by decide +kernel
theorem dL_law_874 : decode mL_law.2.1 874 = .ok (.iload_n 3, 1) := by decide +kernel
theorem dL_law_875 : decode mL_law.2.1 875 = .ok (.iconst 2, 1) := by decide +kernel
theorem dL_law_876 : decode mL_law.2.1 876 = .ok (.iadd, 1) := by decide +kernel
theorem dL_law_877 : decode mL_law.2.1 877 = .ok (.iaload, 1) := by decide +kernel
theorem dL_law_878 : decode mL_law.2.1 878 = .ok (.invokevirtual 99, 3) := by decide +kernel
theorem dL_law_881 : decode mL_law.2.1 881 = .ok (.aload_n 2, 1) := by decide +kernel
theorem dL_law_882 : decode mL_law.2.1 882 = .ok (.aload_n 0, 1) := by decide +kernel
theorem dL_law_883 : decode mL_law.2.1 883 = .ok (.iload_n 3, 1) := by decide +kernel
theorem dL_law_884 : decode mL_law.2.1 884 = .ok (.iconst 1, 1) := by decide +kernel
theorem dL_law_885 : decode mL_law.2.1 885 = .ok (.iadd, 1) := by decide +kernel
theorem dL_law_886 : decode mL_law.2.1 886 = .ok (.iaload, 1) := by decide +kernel
theorem dL_law_887 : decode mL_law.2.1 887 = .ok (.aload_n 0, 1) := by decide +kernel
theorem dL_law_888 : decode mL_law.2.1 888 = .ok (.iload_n 3, 1) := by decide +kernel
theorem dL_law_889 : decode mL_law.2.1 889 = .ok (.iconst 2, 1) := by decide +kernel
theorem dL_law_890 : decode mL_law.2.1 890 = .ok (.iadd, 1) := by decide +kernel
theorem dL_law_891 : decode mL_law.2.1 891 = .ok (.iaload, 1) := by decide +kernel
theorem dL_law_892 : decode mL_law.2.1 892 = .ok (.invokevirtual 102, 3) := by decide +kernel
theorem dL_law_895 : decode mL_law.2.1 895 = .ok (.if_icmp .eq 994, 3) := by decide +kernel
theorem dL_law_898 : decode mL_law.2.1 898 = .ok (.iconst 0, 1) := by decide +kernel
theorem dL_law_899 : decode mL_law.2.1 899 = .ok (.ireturn, 1) := by decide +kernel
theorem dL_law_900 : decode mL_law.2.1 900 = .ok (.aload_n 1, 1) := by decide +kernel
theorem dL_law_901 : decode mL_law.2.1 901 = .ok (.aload_n 0, 1) := by decide +kernel
theorem dL_law_902 : decode mL_law.2.1 902 = .ok (.iload_n 3, 1) := by decide +kernel
theorem dL_law_903 : decode mL_law.2.1 903 = .ok (.iconst 1, 1) := by decide +kernel
theorem dL_law_904 : decode mL_law.2.1 904 = .ok (.iadd, 1) := by decide +kernel
theorem dL_law_905 : decode mL_law.2.1 905 = .ok (.iaload, 1) := by decide +kernel
theorem dL_law_906 : decode mL_law.2.1 906 = .ok (.aload_n 0, 1) := by decide +kernel
theorem dL_law_907 : decode mL_law.2.1 907 = .ok (.iload_n 3, 1) := by decide +kernel
theorem dL_law_908 : decode mL_law.2.1 908 = .ok (.iconst 2, 1) := by decide +kernel
theorem dL_law_909 : decode mL_law.2.1 909 = .ok (.iadd, 1) := by decide +kernel
theorem dL_law_910 : decode mL_law.2.1 910 = .ok (.iaload, 1) := by decide +kernel
theorem dL_law_911 : decode mL_law.2.1 911 = .ok (.invokevirtual 103, 3) := by decide +kernel
theorem dL_law_914 : decode mL_law.2.1 914 = .ok (.aload_n 2, 1) := by decide +kernel
theorem dL_law_915 : decode mL_law.2.1 915 = .ok (.aload_n 0, 1) := by decide +kernel
theorem dL_law_916 : decode mL_law.2.1 916 = .ok (.iload_n 3, 1) := by decide +kernel
theorem dL_law_917 : decode mL_law.2.1 917 = .ok (.iconst 1, 1) := by decide +kernel
theorem dL_law_918 : decode mL_law.2.1 918 = .ok (.iadd, 1) := by decide +kernel
theorem dL_law_919 : decode mL_law.2.1 919 = .ok (.iaload, 1) := by decide +kernel
theorem dL_law_920 : decode mL_law.2.1 920 = .ok (.aload_n 0, 1) := by decide +kernel
theorem dL_law_921 : decode mL_law.2.1 921 = .ok (.iload_n 3, 1) := by decide +kernel
theorem dL_law_922 : decode mL_law.2.1 922 = .ok (.iconst 2, 1) := by decide +kernel
theorem dL_law_923 : decode mL_law.2.1 923 = .ok (.iadd, 1) := by decide +kernel
theorem dL_law_924 : decode mL_law.2.1 924 = .ok (.iaload, 1) := by decide +kernel
theorem dL_law_925 : decode mL_law.2.1 925 = .ok (.invokevirtual 106, 3) := by decide +kernel
theorem dL_law_928 : decode mL_law.2.1 928 = .ok (.if_icmp .eq 961, 3) := by decide +kernel
theorem dL_law_931 : decode mL_law.2.1 931 = .ok (.iconst 0, 1) := by decide +kernel
theorem dL_law_932 : decode mL_law.2.1 932 = .ok (.ireturn, 1) := by decide +kernel
theorem dL_law_933 : decode mL_law.2.1 933 = .ok (.aload_n 1, 1) := by decide +kernel
theorem dL_law_934 : decode mL_law.2.1 934 = .ok (.aload_n 0, 1) := by decide +kernel
theorem dL_law_935 : decode mL_law.2.1 935 = .ok (.iload_n 3, 1) := by decide +kernel
theorem dL_law_936 : decode mL_law.2.1 936 = .ok (.iconst 1, 1) := by decide +kernel
theorem dL_law_937 : decode mL_law.2.1 937 = .ok (.iadd, 1) := by decide +kernel
theorem dL_law_938 : decode mL_law.2.1 938 = .ok (.iaload, 1) := by decide +kernel
theorem dL_law_939 : decode mL_law.2.1 939 = .ok (.aload_n 0, 1) := by decide +kernel
theorem dL_law_940 : decode mL_law.2.1 940 = .ok (.iload_n 3, 1) := by decide +kernel
theorem dL_law_941 : decode mL_law.2.1 941 = .ok (.iconst 2, 1) := by decide +kernel
theorem dL_law_942 : decode mL_law.2.1 942 = .ok (.iadd, 1) := by decide +kernel
theorem dL_law_943 : decode mL_law.2.1 943 = .ok (.iaload, 1) := by decide +kernel
theorem dL_law_944 : decode mL_law.2.1 944 = .ok (.invokevirtual 107, 3) := by decide +kernel
theorem dL_law_947 : decode mL_law.2.1 947 = .ok (.aload_n 2, 1) := by decide +kernel
theorem dL_law_948 : decode mL_law.2.1 948 = .ok (.aload_n 0, 1) := by decide +kernel
theorem dL_law_949 : decode mL_law.2.1 949 = .ok (.iload_n 3, 1) := by decide +kernel
theorem dL_law_950 : decode mL_law.2.1 950 = .ok (.iconst 1, 1) := by decide +kernel
theorem dL_law_951 : decode mL_law.2.1 951 = .ok (.iadd, 1) := by decide +kernel
theorem dL_law_952 : decode mL_law.2.1 952 = .ok (.iaload, 1) := by decide +kernel
theorem dL_law_953 : decode mL_law.2.1 953 = .ok (.aload_n 0, 1) := by decide +kernel
theorem dL_law_954 : decode mL_law.2.1 954 = .ok (.iload_n 3, 1) := by decide +kernel
theorem dL_law_955 : decode mL_law.2.1 955 = .ok (.iconst 2, 1) := by decide +kernel
theorem dL_law_956 : decode mL_law.2.1 956 = .ok (.iadd, 1) := by decide +kernel
theorem dL_law_957 : decode mL_law.2.1 957 = .ok (.iaload, 1) := by decide +kernel
theorem dL_law_958 : decode mL_law.2.1 958 = .ok (.invokevirtual 110, 3) := by decide +kernel
theorem dL_law_961 : decode mL_law.2.1 961 = .ok (.if_icmp .eq 928, 3) := by decide +kernel
theorem dL_law_964 : decode mL_law.2.1 964 = .ok (.iconst 0, 1) := by decide +kernel
theorem dL_law_965 : decode mL_law.2.1 965 = .ok (.ireturn, 1) := by decide +kernel
theorem dL_law_966 : decode mL_law.2.1 966 = .ok (.aload_n 1, 1) := by decide +kernel
theorem dL_law_967 : decode mL_law.2.1 967 = .ok (.aload_n 0, 1) := by decide +kernel
theorem dL_law_968 : decode mL_law.2.1 968 = .ok (.iload_n 3, 1) := by decide +kernel
theorem dL_law_969 : decode mL_law.2.1 969 = .ok (.iconst 1, 1) := by decide +kernel
theorem dL_law_970 : decode mL_law.2.1 970 = .ok (.iadd, 1) := by decide +kernel
theorem dL_law_971 : decode mL_law.2.1 971 = .ok (.iaload, 1) := by decide +kernel
theorem dL_law_972 : decode mL_law.2.1 972 = .ok (.aload_n 0, 1) := by decide +kernel
theorem dL_law_973 : decode mL_law.2.1 973 = .ok (.iload_n 3, 1) := by decide +kernel
theorem dL_law_974 : decode mL_law.2.1 974 = .ok (.iconst 2, 1) := by decide +kernel
theorem dL_law_975 : decode mL_law.2.1 975 = .ok (.iadd, 1) := by decide +kernel
theorem dL_law_976 : decode mL_law.2.1 976 = .ok (.iaload, 1) := by decide +kernel
theorem dL_law_977 : decode mL_law.2.1 977 = .ok (.invokevirtual 111, 3) := by decide +kernel
theorem dL_law_980 : decode mL_law.2.1 980 = .ok (.aload_n 2, 1) := by decide +kernel
theorem dL_law_981 : decode mL_law.2.1 981 = .ok (.aload_n 0, 1) := by decide +kernel
theorem dL_law_982 : decode mL_law.2.1 982 = .ok (.iload_n 3, 1) := by decide +kernel
theorem dL_law_983 : decode mL_law.2.1 983 = .ok (.iconst 1, 1) := by decide +kernel
theorem dL_law_984 : decode mL_law.2.1 984 = .ok (.iadd, 1) := by decide +kernel
theorem dL_law_985 : decode mL_law.2.1 985 = .ok (.iaload, 1) := by decide +kernel
theorem dL_law_986 : decode mL_law.2.1 986 = .ok (.aload_n 0, 1) := by decide +kernel
theorem dL_law_987 : decode mL_law.2.1 987 = .ok (.iload_n 3, 1) := by decide +kernel
theorem dL_law_988 : decode mL_law.2.1 988 = .ok (.iconst 2, 1) := by decide +kernel
theorem dL_law_989 : decode mL_law.2.1 989 = .ok (.iadd, 1) := by decide +kernel
theorem dL_law_990 : decode mL_law.2.1 990 = .ok (.iaload, 1) := by decide +kernel
theorem dL_law_991 : decode mL_law.2.1 991 = .ok (.invokevirtual 114, 3) := by decide +kernel
theorem dL_law_994 : decode mL_law.2.1 994 = .ok (.lcmp, 1) := by decide +kernel
theorem dL_law_995 : decode mL_law.2.1 995 = .ok (.ifCond .eq 894, 3) := by decide +kernel
theorem dL_law_998 : decode mL_law.2.1 998 = .ok (.iconst 0, 1) := by decide +kernel
theorem dL_law_999 : decode mL_law.2.1 999 = .ok (.ireturn, 1) := by decide +kernel
theorem dL_law_1000 : decode mL_law.2.1 1000 = .ok (.aload_n 1, 1) := by decide +kernel
theorem dL_law_1001 : decode mL_law.2.1 1001 = .ok (.aload_n 0, 1) := by decide +kernel
theorem dL_law_1002 : decode mL_law.2.1 1002 = .ok (.iload_n 3, 1) := by decide +kernel
theorem dL_law_1003 : decode mL_law.2.1 1003 = .ok (.iconst 1, 1) := by decide +kernel
theorem dL_law_1004 : decode mL_law.2.1 1004 = .ok (.iadd, 1) := by decide +kernel
theorem dL_law_1005 : decode mL_law.2.1 1005 = .ok (.iaload, 1) := by decide +kernel
theorem dL_law_1006 : decode mL_law.2.1 1006 = .ok (.aload_n 0, 1) := by decide +kernel
theorem dL_law_1007 : decode mL_law.2.1 1007 = .ok (.iload_n 3, 1) := by decide +kernel
theorem dL_law_1008 : decode mL_law.2.1 1008 = .ok (.iconst 2, 1) := by decide +kernel
theorem dL_law_1009 : decode mL_law.2.1 1009 = .ok (.iadd, 1) := by decide +kernel
theorem dL_law_1010 : decode mL_law.2.1 1010 = .ok (.iaload, 1) := by decide +kernel
theorem dL_law_1011 : decode mL_law.2.1 1011 = .ok (.invokevirtual 115, 3) := by decide +kernel
theorem dL_law_1014 : decode mL_law.2.1 1014 = .ok (.aload_n 2, 1) := by decide +kernel
theorem dL_law_1015 : decode mL_law.2.1 1015 = .ok (.aload_n 0, 1) := by decide +kernel
theorem dL_law_1016 : decode mL_law.2.1 1016 = .ok (.iload_n 3, 1) := by decide +kernel
theorem dL_law_1017 : decode mL_law.2.1 1017 = .ok (.iconst 1, 1) := by decide +kernel
theorem dL_law_1018 : decode mL_law.2.1 1018 = .ok (.iadd, 1) := by decide +kernel
theorem dL_law_1019 : decode mL_law.2.1 1019 = .ok (.iaload, 1) := by decide +kernel
theorem dL_law_1020 : decode mL_law.2.1 1020 = .ok (.aload_n 0, 1) := by decide +kernel
theorem dL_law_1021 : decode mL_law.2.1 1021 = .ok (.iload_n 3, 1) := by decide +kernel
theorem dL_law_1022 : decode mL_law.2.1 1022 = .ok (.iconst 2, 1) := by decide +kernel
theorem dL_law_1023 : decode mL_law.2.1 1023 = .ok (.iadd, 1) := by decide +kernel
theorem dL_law_1024 : decode mL_law.2.1 1024 = .ok (.iaload, 1) := by decide +kernel
theorem dL_law_1025 : decode mL_law.2.1 1025 = .ok (.invokevirtual 118, 3) := by decide +kernel
theorem dL_law_1028 : decode mL_law.2.1 1028 = .ok (.lcmp, 1) := by decide +kernel
theorem dL_law_1029 : decode mL_law.2.1 1029 = .ok (.ifCond .eq 860, 3) := by decide +kernel
theorem dL_law_1032 : decode mL_law.2.1 1032 = .ok (.iconst 0, 1) := by decide +kernel
theorem dL_law_1033 : decode mL_law.2.1 1033 = .ok (.ireturn, 1) := by decide +kernel
theorem dL_law_1034 : decode mL_law.2.1 1034 = .ok (.aload_n 1, 1) := by decide +kernel
theorem dL_law_1035 : decode mL_law.2.1 1035 = .ok (.aload_n 0, 1) := by decide +kernel
theorem dL_law_1036 : decode mL_law.2.1 1036 = .ok (.iload_n 3, 1) := by decide +kernel
theorem dL_law_1037 : decode mL_law.2.1 1037 = .ok (.iconst 1, 1) := by decide +kernel
theorem dL_law_1038 : decode mL_law.2.1 1038 = .ok (.iadd, 1) := by decide +kernel
theorem dL_law_1039 : decode mL_law.2.1 1039 = .ok (.iaload, 1) := by decide +kernel
theorem dL_law_1040 : decode mL_law.2.1 1040 = .ok (.aload_n 0, 1) := by decide +kernel
theorem dL_law_1041 : decode mL_law.2.1 1041 = .ok (.iload_n 3, 1) := by decide +kernel
theorem dL_law_1042 : decode mL_law.2.1 1042 = .ok (.iconst 2, 1) := by decide +kernel
theorem dL_law_1043 : decode mL_law.2.1 1043 = .ok (.iadd, 1) := by decide +kernel
theorem dL_law_1044 : decode mL_law.2.1 1044 = .ok (.iaload, 1) := by decide +kernel
theorem dL_law_1045 : decode mL_law.2.1 1045 = .ok (.aload_n 0, 1) := by decide +kernel
theorem dL_law_1046 : decode mL_law.2.1 1046 = .ok (.iload_n 3, 1) := by decide +kernel
theorem dL_law_1047 : decode mL_law.2.1 1047 = .ok (.iconst 3, 1) := by decide +kernel
theorem dL_law_1048 : decode mL_law.2.1 1048 = .ok (.iadd, 1) := by decide +kernel
theorem dL_law_1049 : decode mL_law.2.1 1049 = .ok (.iaload, 1) := by decide +kernel
theorem dL_law_1050 : decode mL_law.2.1 1050 = .ok (.invokevirtual 119, 3) := by decide +kernel
theorem dL_law_1053 : decode mL_law.2.1 1053 = .ok (.aload_n 2, 1) := by decide +kernel
theorem dL_law_1054 : decode mL_law.2.1 1054 = .ok (.aload_n 0, 1) := by decide +kernel
theorem dL_law_1055 : decode mL_law.2.1 1055 = .ok (.iload_n 3, 1) := by decide +kernel
theorem dL_law_1056 : decode mL_law.2.1 1056 = .ok (.iconst 1, 1) := by decide +kernel
theorem dL_law_1057 : decode mL_law.2.1 1057 = .ok (.iadd, 1) := by decide +kernel
theorem dL_law_1058 : decode mL_law.2.1 1058 = .ok (.iaload, 1) := by decide +kernel
theorem dL_law_1059 : decode mL_law.2.1 1059 = .ok (.aload_n 0, 1) := by decide +kernel
theorem dL_law_1060 : decode mL_law.2.1 1060 = .ok (.iload_n 3, 1) := by decide +kernel
theorem dL_law_1061 : decode mL_law.2.1 1061 = .ok (.iconst 2, 1) := by decide +kernel
theorem dL_law_1062 : decode mL_law.2.1 1062 = .ok (.iadd, 1) := by decide +kernel
theorem dL_law_1063 : decode mL_law.2.1 1063 = .ok (.iaload, 1) := by decide +kernel
theorem dL_law_1064 : decode mL_law.2.1 1064 = .ok (.aload_n 0, 1) := by decide +kernel
theorem dL_law_1065 : decode mL_law.2.1 1065 = .ok (.iload_n 3, 1) := by decide +kernel
theorem dL_law_1066 : decode mL_law.2.1 1066 = .ok (.iconst 3, 1) := by decide +kernel
theorem dL_law_1067 : decode mL_law.2.1 1067 = .ok (.iadd, 1) := by decide +kernel
theorem dL_law_1068 : decode mL_law.2.1 1068 = .ok (.iaload, 1) := by decide +kernel
theorem dL_law_1069 : decode mL_law.2.1 1069 = .ok (.invokevirtual 122, 3) := by decide +kernel
theorem dL_law_1072 : decode mL_law.2.1 1072 = .ok (.if_icmp .eq 817, 3) := by decide +kernel
theorem dL_law_1075 : decode mL_law.2.1 1075 = .ok (.iconst 0, 1) := by decide +kernel
theorem dL_law_1076 : decode mL_law.2.1 1076 = .ok (.ireturn, 1) := by decide +kernel
theorem dL_law_1077 : decode mL_law.2.1 1077 = .ok (.aload_n 1, 1) := by decide +kernel
theorem dL_law_1078 : decode mL_law.2.1 1078 = .ok (.aload_n 0, 1) := by decide +kernel
theorem dL_law_1079 : decode mL_law.2.1 1079 = .ok (.iload_n 3, 1) := by decide +kernel
theorem dL_law_1080 : decode mL_law.2.1 1080 = .ok (.iconst 1, 1) := by decide +kernel
theorem dL_law_1081 : decode mL_law.2.1 1081 = .ok (.iadd, 1) := by decide +kernel
theorem dL_law_1082 : decode mL_law.2.1 1082 = .ok (.iaload, 1) := by decide +kernel
theorem dL_law_1083 : decode mL_law.2.1 1083 = .ok (.aload_n 0, 1) := by decide +kernel
theorem dL_law_1084 : decode mL_law.2.1 1084 = .ok (.iload_n 3, 1) := by decide +kernel
theorem dL_law_1085 : decode mL_law.2.1 1085 = .ok (.iconst 2, 1) := by decide +kernel
theorem dL_law_1086 : decode mL_law.2.1 1086 = .ok (.iadd, 1) := by decide +kernel
theorem dL_law_1087 : decode mL_law.2.1 1087 = .ok (.iaload, 1) := by decide +kernel
theorem dL_law_1088 : decode mL_law.2.1 1088 = .ok (.invokevirtual 123, 3) := by decide +kernel
theorem dL_law_1091 : decode mL_law.2.1 1091 = .ok (.aload_n 2, 1) := by decide +kernel
theorem dL_law_1092 : decode mL_law.2.1 1092 = .ok (.aload_n 0, 1) := by decide +kernel
theorem dL_law_1093 : decode mL_law.2.1 1093 = .ok (.iload_n 3, 1) := by decide +kernel
theorem dL_law_1094 : decode mL_law.2.1 1094 = .ok (.iconst 1, 1) := by decide +kernel
theorem dL_law_1095 : decode mL_law.2.1 1095 = .ok (.iadd, 1) := by decide +kernel
theorem dL_law_1096 : decode mL_law.2.1 1096 = .ok (.iaload, 1) := by decide +kernel
theorem dL_law_1097 : decode mL_law.2.1 1097 = .ok (.aload_n 0, 1) := by decide +kernel
theorem dL_law_1098 : decode mL_law.2.1 1098 = .ok (.iload_n 3, 1) := by decide +kernel
theorem dL_law_1099 : decode mL_law.2.1 1099 = .ok (.iconst 2, 1) := by decide +kernel
theorem dL_law_1100 : decode mL_law.2.1 1100 = .ok (.iadd, 1) := by decide +kernel
theorem dL_law_1101 : decode mL_law.2.1 1101 = .ok (.iaload, 1) := by decide +kernel
theorem dL_law_1102 : decode mL_law.2.1 1102 = .ok (.invokevirtual 126, 3) := by decide +kernel
theorem dL_law_1105 : decode mL_law.2.1 1105 = .ok (.if_icmp .eq 784, 3) := by decide +kernel
theorem dL_law_1108 : decode mL_law.2.1 1108 = .ok (.iconst 0, 1) := by decide +kernel
theorem dL_law_1109 : decode mL_law.2.1 1109 = .ok (.ireturn, 1) := by decide +kernel
theorem dL_law_1110 : decode mL_law.2.1 1110 = .ok (.aload_n 1, 1) := by decide +kernel
theorem dL_law_1111 : decode mL_law.2.1 1111 = .ok (.aload_n 0, 1) := by decide +kernel
theorem dL_law_1112 : decode mL_law.2.1 1112 = .ok (.iload_n 3, 1) := by decide +kernel
theorem dL_law_1113 : decode mL_law.2.1 1113 = .ok (.iconst 1, 1) := by decide +kernel
theorem dL_law_1114 : decode mL_law.2.1 1114 = .ok (.iadd, 1) := by decide +kernel
theorem dL_law_1115 : decode mL_law.2.1 1115 = .ok (.iaload, 1) := by decide +kernel
theorem dL_law_1116 : decode mL_law.2.1 1116 = .ok (.aload_n 0, 1) := by decide +kernel
theorem dL_law_1117 : decode mL_law.2.1 1117 = .ok (.iload_n 3, 1) := by decide +kernel
theorem dL_law_1118 : decode mL_law.2.1 1118 = .ok (.iconst 2, 1) := by decide +kernel
theorem dL_law_1119 : decode mL_law.2.1 1119 = .ok (.iadd, 1) := by decide +kernel
theorem dL_law_1120 : decode mL_law.2.1 1120 = .ok (.iaload, 1) := by decide +kernel
theorem dL_law_1121 : decode mL_law.2.1 1121 = .ok (.aload_n 0, 1) := by decide +kernel
theorem dL_law_1122 : decode mL_law.2.1 1122 = .ok (.iload_n 3, 1) := by decide +kernel
theorem dL_law_1123 : decode mL_law.2.1 1123 = .ok (.iconst 3, 1) := by decide +kernel
theorem dL_law_1124 : decode mL_law.2.1 1124 = .ok (.iadd, 1) := by decide +kernel
theorem dL_law_1125 : decode mL_law.2.1 1125 = .ok (.iaload, 1) := by decide +kernel
theorem dL_law_1126 : decode mL_law.2.1 1126 = .ok (.invokevirtual 127, 3) := by decide +kernel
theorem dL_law_1129 : decode mL_law.2.1 1129 = .ok (.aload_n 2, 1) := by decide +kernel
theorem dL_law_1130 : decode mL_law.2.1 1130 = .ok (.aload_n 0, 1) := by decide +kernel
theorem dL_law_1131 : decode mL_law.2.1 1131 = .ok (.iload_n 3, 1) := by decide +kernel
theorem dL_law_1132 : decode mL_law.2.1 1132 = .ok (.iconst 1, 1) := by decide +kernel
theorem dL_law_1133 : decode mL_law.2.1 1133 = .ok (.iadd, 1) := by decide +kernel
theorem dL_law_1134 : decode mL_law.2.1 1134 = .ok (.iaload, 1) := by decide +kernel
theorem dL_law_1135 : decode mL_law.2.1 1135 = .ok (.aload_n 0, 1) := by decide +kernel
theorem dL_law_1136 : decode mL_law.2.1 1136 = .ok (.iload_n 3, 1) := by decide +kernel
theorem dL_law_1137 : decode mL_law.2.1 1137 = .ok (.iconst 2, 1) := by decide +kernel
theorem dL_law_1138 : decode mL_law.2.1 1138 = .ok (.iadd, 1) := by decide +kernel
theorem dL_law_1139 : decode mL_law.2.1 1139 = .ok (.iaload, 1) := by decide +kernel
theorem dL_law_1140 : decode mL_law.2.1 1140 = .ok (.aload_n 0, 1) := by decide +kernel
theorem dL_law_1141 : decode mL_law.2.1 1141 = .ok (.iload_n 3, 1) := by decide +kernel
theorem dL_law_1142 : decode mL_law.2.1 1142 = .ok (.iconst 3, 1) := by decide +kernel
theorem dL_law_1143 : decode mL_law.2.1 1143 = .ok (.iadd, 1) := by decide +kernel
theorem dL_law_1144 : decode mL_law.2.1 1144 = .ok (.iaload, 1) := by decide +kernel
theorem dL_law_1145 : decode mL_law.2.1 1145 = .ok (.invokevirtual 130, 3) := by decide +kernel
theorem dL_law_1148 : decode mL_law.2.1 1148 = .ok (.if_icmp .eq 741, 3) := by decide +kernel
theorem dL_law_1151 : decode mL_law.2.1 1151 = .ok (.iconst 0, 1) := by decide +kernel
theorem dL_law_1152 : decode mL_law.2.1 1152 = .ok (.ireturn, 1) := by decide +kernel
theorem dL_law_1153 : decode mL_law.2.1 1153 = .ok (.aload_n 1, 1) := by decide +kernel
theorem dL_law_1154 : decode mL_law.2.1 1154 = .ok (.aload_n 0, 1) := by decide +kernel
theorem dL_law_1155 : decode mL_law.2.1 1155 = .ok (.iload_n 3, 1) := by decide +kernel
theorem dL_law_1156 : decode mL_law.2.1 1156 = .ok (.iconst 1, 1) := by decide +kernel
theorem dL_law_1157 : decode mL_law.2.1 1157 = .ok (.iadd, 1) := by decide +kernel
theorem dL_law_1158 : decode mL_law.2.1 1158 = .ok (.iaload, 1) := by decide +kernel
theorem dL_law_1159 : decode mL_law.2.1 1159 = .ok (.aload_n 0, 1) := by decide +kernel
theorem dL_law_1160 : decode mL_law.2.1 1160 = .ok (.iload_n 3, 1) := by decide +kernel
theorem dL_law_1161 : decode mL_law.2.1 1161 = .ok (.iconst 2, 1) := by decide +kernel
theorem dL_law_1162 : decode mL_law.2.1 1162 = .ok (.iadd, 1) := by decide +kernel
theorem dL_law_1163 : decode mL_law.2.1 1163 = .ok (.iaload, 1) := by decide +kernel
theorem dL_law_1164 : decode mL_law.2.1 1164 = .ok (.invokevirtual 131, 3) := by decide +kernel
theorem dL_law_1167 : decode mL_law.2.1 1167 = .ok (.aload_n 2, 1) := by decide +kernel
theorem dL_law_1168 : decode mL_law.2.1 1168 = .ok (.aload_n 0, 1) := by decide +kernel
theorem dL_law_1169 : decode mL_law.2.1 1169 = .ok (.iload_n 3, 1) := by decide +kernel
theorem dL_law_1170 : decode mL_law.2.1 1170 = .ok (.iconst 1, 1) := by decide +kernel
theorem dL_law_1171 : decode mL_law.2.1 1171 = .ok (.iadd, 1) := by decide +kernel
theorem dL_law_1172 : decode mL_law.2.1 1172 = .ok (.iaload, 1) := by decide +kernel
theorem dL_law_1173 : decode mL_law.2.1 1173 = .ok (.aload_n 0, 1) := by decide +kernel
theorem dL_law_1174 : decode mL_law.2.1 1174 = .ok (.iload_n 3, 1) := by decide +kernel
theorem dL_law_1175 : decode mL_law.2.1 1175 = .ok (.iconst 2, 1) := by decide +kernel
theorem dL_law_1176 : decode mL_law.2.1 1176 = .ok (.iadd, 1) := by decide +kernel
theorem dL_law_1177 : decode mL_law.2.1 1177 = .ok (.iaload, 1) := by decide +kernel
theorem dL_law_1178 : decode mL_law.2.1 1178 = .ok (.invokevirtual 134, 3) := by decide +kernel
theorem dL_law_1181 : decode mL_law.2.1 1181 = .ok (.if_icmp .eq 708, 3) := by decide +kernel
theorem dL_law_1184 : decode mL_law.2.1 1184 = .ok (.iconst 0, 1) := by decide +kernel
theorem dL_law_1185 : decode mL_law.2.1 1185 = .ok (.ireturn, 1) := by decide +kernel
theorem dL_law_1186 : decode mL_law.2.1 1186 = .ok (.aload_n 1, 1) := by decide +kernel
theorem dL_law_1187 : decode mL_law.2.1 1187 = .ok (.aload_n 0, 1) := by decide +kernel
theorem dL_law_1188 : decode mL_law.2.1 1188 = .ok (.iload_n 3, 1) := by decide +kernel
theorem dL_law_1189 : decode mL_law.2.1 1189 = .ok (.iconst 1, 1) := by decide +kernel
theorem dL_law_1190 : decode mL_law.2.1 1190 = .ok (.iadd, 1) := by decide +kernel
theorem dL_law_1191 : decode mL_law.2.1 1191 = .ok (.iaload, 1) := by decide +kernel
theorem dL_law_1192 : decode mL_law.2.1 1192 = .ok (.aload_n 0, 1) := by decide +kernel
theorem dL_law_1193 : decode mL_law.2.1 1193 = .ok (.iload_n 3, 1) := by decide +kernel
theorem dL_law_1194 : decode mL_law.2.1 1194 = .ok (.iconst 2, 1) := by decide +kernel
theorem dL_law_1195 : decode mL_law.2.1 1195 = .ok (.iadd, 1) := by decide +kernel
theorem dL_law_1196 : decode mL_law.2.1 1196 = .ok (.iaload, 1) := by decide +kernel
theorem dL_law_1197 : decode mL_law.2.1 1197 = .ok (.invokevirtual 135, 3) := by decide +kernel
theorem dL_law_1200 : decode mL_law.2.1 1200 = .ok (.aload_n 2, 1) := by decide +kernel
theorem dL_law_1201 : decode mL_law.2.1 1201 = .ok (.aload_n 0, 1) := by decide +kernel
theorem dL_law_1202 : decode mL_law.2.1 1202 = .ok (.iload_n 3, 1) := by decide +kernel
theorem dL_law_1203 : decode mL_law.2.1 1203 = .ok (.iconst 1, 1) := by decide +kernel
theorem dL_law_1204 : decode mL_law.2.1 1204 = .ok (.iadd, 1) := by decide +kernel
theorem dL_law_1205 : decode mL_law.2.1 1205 = .ok (.iaload, 1) := by decide +kernel
theorem dL_law_1206 : decode mL_law.2.1 1206 = .ok (.aload_n 0, 1) := by decide +kernel
theorem dL_law_1207 : decode mL_law.2.1 1207 = .ok (.iload_n 3, 1) := by decide +kernel
theorem dL_law_1208 : decode mL_law.2.1 1208 = .ok (.iconst 2, 1) := by decide +kernel
theorem dL_law_1209 : decode mL_law.2.1 1209 = .ok (.iadd, 1) := by decide +kernel
theorem dL_law_1210 : decode mL_law.2.1 1210 = .ok (.iaload, 1) := by decide +kernel
theorem dL_law_1211 : decode mL_law.2.1 1211 = .ok (.invokevirtual 138, 3) := by decide +kernel
theorem dL_law_1214 : decode mL_law.2.1 1214 = .ok (.if_icmp .eq 675, 3) := by decide +kernel
theorem dL_law_1217 : decode mL_law.2.1 1217 = .ok (.iconst 0, 1) := by decide +kernel
theorem dL_law_1218 : decode mL_law.2.1 1218 = .ok (.ireturn, 1) := by decide +kernel
theorem dL_law_1219 : decode mL_law.2.1 1219 = .ok (.aload_n 1, 1) := by decide +kernel
theorem dL_law_1220 : decode mL_law.2.1 1220 = .ok (.aload_n 0, 1) := by decide +kernel
theorem dL_law_1221 : decode mL_law.2.1 1221 = .ok (.iload_n 3, 1) := by decide +kernel
theorem dL_law_1222 : decode mL_law.2.1 1222 = .ok (.iconst 1, 1) := by decide +kernel
theorem dL_law_1223 : decode mL_law.2.1 1223 = .ok (.iadd, 1) := by decide +kernel
theorem dL_law_1224 : decode mL_law.2.1 1224 = .ok (.iaload, 1) := by decide +kernel
theorem dL_law_1225 : decode mL_law.2.1 1225 = .ok (.aload_n 0, 1) := by decide +kernel
theorem dL_law_1226 : decode mL_law.2.1 1226 = .ok (.iload_n 3, 1) := by decide +kernel
theorem dL_law_1227 : decode mL_law.2.1 1227 = .ok (.iconst 2, 1) := by decide +kernel
theorem dL_law_1228 : decode mL_law.2.1 1228 = .ok (.iadd, 1) := by decide +kernel
theorem dL_law_1229 : decode mL_law.2.1 1229 = .ok (.iaload, 1) := by decide +kernel
theorem dL_law_1230 : decode mL_law.2.1 1230 = .ok (.aload_n 0, 1) := by decide +kernel
theorem dL_law_1231 : decode mL_law.2.1 1231 = .ok (.iload_n 3, 1) := by decide +kernel
theorem dL_law_1232 : decode mL_law.2.1 1232 = .ok (.iconst 3, 1) := by decide +kernel
theorem dL_law_1233 : decode mL_law.2.1 1233 = .ok (.iadd, 1) := by decide +kernel
theorem dL_law_1234 : decode mL_law.2.1 1234 = .ok (.iaload, 1) := by decide +kernel
theorem dL_law_1235 : decode mL_law.2.1 1235 = .ok (.invokevirtual 139, 3) := by decide +kernel
theorem dL_law_1238 : decode mL_law.2.1 1238 = .ok (.aload_n 2, 1) := by decide +kernel
theorem dL_law_1239 : decode mL_law.2.1 1239 = .ok (.aload_n 0, 1) := by decide +kernel
theorem dL_law_1240 : decode mL_law.2.1 1240 = .ok (.iload_n 3, 1) := by decide +kernel
theorem dL_law_1241 : decode mL_law.2.1 1241 = .ok (.iconst 1, 1) := by decide +kernel
theorem dL_law_1242 : decode mL_law.2.1 1242 = .ok (.iadd, 1) := by decide +kernel
theorem dL_law_1243 : decode mL_law.2.1 1243 = .ok (.iaload, 1) := by decide +kernel
theorem dL_law_1244 : decode mL_law.2.1 1244 = .ok (.aload_n 0, 1) := by decide +kernel
theorem dL_law_1245 : decode mL_law.2.1 1245 = .ok (.iload_n 3, 1) := by decide +kernel
theorem dL_law_1246 : decode mL_law.2.1 1246 = .ok (.iconst 2, 1) := by decide +kernel
theorem dL_law_1247 : decode mL_law.2.1 1247 = .ok (.iadd, 1) := by decide +kernel
theorem dL_law_1248 : decode mL_law.2.1 1248 = .ok (.iaload, 1) := by decide +kernel
theorem dL_law_1249 : decode mL_law.2.1 1249 = .ok (.aload_n 0, 1) := by decide +kernel
theorem dL_law_1250 : decode mL_law.2.1 1250 = .ok (.iload_n 3, 1) := by decide +kernel
theorem dL_law_1251 : decode mL_law.2.1 1251 = .ok (.iconst 3, 1) := by decide +kernel
theorem dL_law_1252 : decode mL_law.2.1 1252 = .ok (.iadd, 1) := by decide +kernel
theorem dL_law_1253 : decode mL_law.2.1 1253 = .ok (.iaload, 1) := by decide +kernel
theorem dL_law_1254 : decode mL_law.2.1 1254 = .ok (.invokevirtual 142, 3) := by decide +kernel
theorem dL_law_1257 : decode mL_law.2.1 1257 = .ok (.if_icmp .eq 632, 3) := by decide +kernel
theorem dL_law_1260 : decode mL_law.2.1 1260 = .ok (.iconst 0, 1) := by decide +kernel
theorem dL_law_1261 : decode mL_law.2.1 1261 = .ok (.ireturn, 1) := by decide +kernel
theorem dL_law_1262 : decode mL_law.2.1 1262 = .ok (.aload_n 1, 1) := by decide +kernel
theorem dL_law_1263 : decode mL_law.2.1 1263 = .ok (.aload_n 0, 1) := by decide +kernel
theorem dL_law_1264 : decode mL_law.2.1 1264 = .ok (.iload_n 3, 1) := by decide +kernel
theorem dL_law_1265 : decode mL_law.2.1 1265 = .ok (.iconst 1, 1) := by decide +kernel
theorem dL_law_1266 : decode mL_law.2.1 1266 = .ok (.iadd, 1) := by decide +kernel
theorem dL_law_1267 : decode mL_law.2.1 1267 = .ok (.iaload, 1) := by decide +kernel
theorem dL_law_1268 : decode mL_law.2.1 1268 = .ok (.aload_n 0, 1) := by decide +kernel
theorem dL_law_1269 : decode mL_law.2.1 1269 = .ok (.iload_n 3, 1) := by decide +kernel
theorem dL_law_1270 : decode mL_law.2.1 1270 = .ok (.iconst 2, 1) := by decide +kernel
theorem dL_law_1271 : decode mL_law.2.1 1271 = .ok (.iadd, 1) := by decide +kernel
theorem dL_law_1272 : decode mL_law.2.1 1272 = .ok (.iaload, 1) := by decide +kernel
theorem dL_law_1273 : decode mL_law.2.1 1273 = .ok (.aload_n 0, 1) := by decide +kernel
theorem dL_law_1274 : decode mL_law.2.1 1274 = .ok (.iload_n 3, 1) := by decide +kernel
theorem dL_law_1275 : decode mL_law.2.1 1275 = .ok (.iconst 3, 1) := by decide +kernel
theorem dL_law_1276 : decode mL_law.2.1 1276 = .ok (.iadd, 1) := by decide +kernel
theorem dL_law_1277 : decode mL_law.2.1 1277 = .ok (.iaload, 1) := by decide +kernel
theorem dL_law_1278 : decode mL_law.2.1 1278 = .ok (.invokevirtual 143, 3) := by decide +kernel
theorem dL_law_1281 : decode mL_law.2.1 1281 = .ok (.aload_n 2, 1) := by decide +kernel
theorem dL_law_1282 : decode mL_law.2.1 1282 = .ok (.aload_n 0, 1) := by decide +kernel
theorem dL_law_1283 : decode mL_law.2.1 1283 = .ok (.iload_n 3, 1) := by decide +kernel
theorem dL_law_1284 : decode mL_law.2.1 1284 = .ok (.iconst 1, 1) := by decide +kernel
theorem dL_law_1285 : decode mL_law.2.1 1285 = .ok (.iadd, 1) := by decide +kernel
theorem dL_law_1286 : decode mL_law.2.1 1286 = .ok (.iaload, 1) := by decide +kernel
theorem dL_law_1287 : decode mL_law.2.1 1287 = .ok (.aload_n 0, 1) := by decide +kernel
theorem dL_law_1288 : decode mL_law.2.1 1288 = .ok (.iload_n 3, 1) := by decide +kernel
theorem dL_law_1289 : decode mL_law.2.1 1289 = .ok (.iconst 2, 1) := by decide +kernel
theorem dL_law_1290 : decode mL_law.2.1 1290 = .ok (.iadd, 1) := by decide +kernel
theorem dL_law_1291 : decode mL_law.2.1 1291 = .ok (.iaload, 1) := by decide +kernel
theorem dL_law_1292 : decode mL_law.2.1 1292 = .ok (.aload_n 0, 1) := by decide +kernel
theorem dL_law_1293 : decode mL_law.2.1 1293 = .ok (.iload_n 3, 1) := by decide +kernel
theorem dL_law_1294 : decode mL_law.2.1 1294 = .ok (.iconst 3, 1) := by decide +kernel
theorem dL_law_1295 : decode mL_law.2.1 1295 = .ok (.iadd, 1) := by decide +kernel
theorem dL_law_1296 : decode mL_law.2.1 1296 = .ok (.iaload, 1) := by decide +kernel
theorem dL_law_1297 : decode mL_law.2.1 1297 = .ok (.invokevirtual 146, 3) := by decide +kernel
theorem dL_law_1300 : decode mL_law.2.1 1300 = .ok (.if_icmp .eq 589, 3) := by decide +kernel
theorem dL_law_1303 : decode mL_law.2.1 1303 = .ok (.iconst 0, 1) := by decide +kernel
theorem dL_law_1304 : decode mL_law.2.1 1304 = .ok (.ireturn, 1) := by decide +kernel
theorem dL_law_1305 : decode mL_law.2.1 1305 = .ok (.aload_n 1, 1) := by decide +kernel
theorem dL_law_1306 : decode mL_law.2.1 1306 = .ok (.aload_n 0, 1) := by decide +kernel
theorem dL_law_1307 : decode mL_law.2.1 1307 = .ok (.iload_n 3, 1) := by decide +kernel
theorem dL_law_1308 : decode mL_law.2.1 1308 = .ok (.iconst 1, 1) := by decide +kernel
theorem dL_law_1309 : decode mL_law.2.1 1309 = .ok (.iadd, 1) := by decide +kernel
theorem dL_law_1310 : decode mL_law.2.1 1310 = .ok (.iaload, 1) := by decide +kernel
theorem dL_law_1311 : decode mL_law.2.1 1311 = .ok (.aload_n 0, 1) := by decide +kernel
theorem dL_law_1312 : decode mL_law.2.1 1312 = .ok (.iload_n 3, 1) := by decide +kernel
theorem dL_law_1313 : decode mL_law.2.1 1313 = .ok (.iconst 2, 1) := by decide +kernel
theorem dL_law_1314 : decode mL_law.2.1 1314 = .ok (.iadd, 1) := by decide +kernel
theorem dL_law_1315 : decode mL_law.2.1 1315 = .ok (.iaload, 1) := by decide +kernel
theorem dL_law_1316 : decode mL_law.2.1 1316 = .ok (.aload_n 0, 1) := by decide +kernel
theorem dL_law_1317 : decode mL_law.2.1 1317 = .ok (.iload_n 3, 1) := by decide +kernel
theorem dL_law_1318 : decode mL_law.2.1 1318 = .ok (.iconst 3, 1) := by decide +kernel
theorem dL_law_1319 : decode mL_law.2.1 1319 = .ok (.iadd, 1) := by decide +kernel
theorem dL_law_1320 : decode mL_law.2.1 1320 = .ok (.iaload, 1) := by decide +kernel
theorem dL_law_1321 : decode mL_law.2.1 1321 = .ok (.aload_n 0, 1) := by decide +kernel
theorem dL_law_1322 : decode mL_law.2.1 1322 = .ok (.iload_n 3, 1) := by decide +kernel
theorem dL_law_1323 : decode mL_law.2.1 1323 = .ok (.iconst 4, 1) := by decide +kernel
theorem dL_law_1324 : decode mL_law.2.1 1324 = .ok (.iadd, 1) := by decide +kernel
theorem dL_law_1325 : decode mL_law.2.1 1325 = .ok (.iaload, 1) := by decide +kernel
theorem dL_law_1326 : decode mL_law.2.1 1326 = .ok (.invokevirtual 147, 3) := by decide +kernel
theorem dL_law_1329 : decode mL_law.2.1 1329 = .ok (.aload_n 2, 1) := by decide +kernel
theorem dL_law_1330 : decode mL_law.2.1 1330 = .ok (.aload_n 0, 1) := by decide +kernel
theorem dL_law_1331 : decode mL_law.2.1 1331 = .ok (.iload_n 3, 1) := by decide +kernel
theorem dL_law_1332 : decode mL_law.2.1 1332 = .ok (.iconst 1, 1) := by decide +kernel
theorem dL_law_1333 : decode mL_law.2.1 1333 = .ok (.iadd, 1) := by decide +kernel
theorem dL_law_1334 : decode mL_law.2.1 1334 = .ok (.iaload, 1) := by decide +kernel
theorem dL_law_1335 : decode mL_law.2.1 1335 = .ok (.aload_n 0, 1) := by decide +kernel
theorem dL_law_1336 : decode mL_law.2.1 1336 = .ok (.iload_n 3, 1) := by decide +kernel
theorem dL_law_1337 : decode mL_law.2.1 1337 = .ok (.iconst 2, 1) := by decide +kernel
theorem dL_law_1338 : decode mL_law.2.1 1338 = .ok (.iadd, 1) := by decide +kernel
theorem dL_law_1339 : decode mL_law.2.1 1339 = .ok (.iaload, 1) := by decide +kernel
theorem dL_law_1340 : decode mL_law.2.1 1340 = .ok (.aload_n 0, 1) := by decide +kernel
theorem dL_law_1341 : decode mL_law.2.1 1341 = .ok (.iload_n 3, 1) := by decide +kernel
theorem dL_law_1342 : decode mL_law.2.1 1342 = .ok (.iconst 3, 1) := by decide +kernel
theorem dL_law_1343 : decode mL_law.2.1 1343 = .ok (.iadd, 1) := by decide +kernel
theorem dL_law_1344 : decode mL_law.2.1 1344 = .ok (.iaload, 1) := by decide +kernel
theorem dL_law_1345 : decode mL_law.2.1 1345 = .ok (.aload_n 0, 1) := by decide +kernel
theorem dL_law_1346 : decode mL_law.2.1 1346 = .ok (.iload_n 3, 1) := by decide +kernel
theorem dL_law_1347 : decode mL_law.2.1 1347 = .ok (.iconst 4, 1) := by decide +kernel
theorem dL_law_1348 : decode mL_law.2.1 1348 = .ok (.iadd, 1) := by decide +kernel
theorem dL_law_1349 : decode mL_law.2.1 1349 = .ok (.iaload, 1) := by decide +kernel
theorem dL_law_1350 : decode mL_law.2.1 1350 = .ok (.invokevirtual 151, 3) := by decide +kernel
theorem dL_law_1353 : decode mL_law.2.1 1353 = .ok (.if_icmp .eq 536, 3) := by decide +kernel
theorem dL_law_1356 : decode mL_law.2.1 1356 = .ok (.iconst 0, 1) := by decide +kernel
theorem dL_law_1357 : decode mL_law.2.1 1357 = .ok (.ireturn, 1) := by decide +kernel
theorem dL_law_1358 : decode mL_law.2.1 1358 = .ok (.aload_n 1, 1) := by decide +kernel
theorem dL_law_1359 : decode mL_law.2.1 1359 = .ok (.aload_n 0, 1) := by decide +kernel
theorem dL_law_1360 : decode mL_law.2.1 1360 = .ok (.iload_n 3, 1) := by decide +kernel
theorem dL_law_1361 : decode mL_law.2.1 1361 = .ok (.iconst 1, 1) := by decide +kernel
theorem dL_law_1362 : decode mL_law.2.1 1362 = .ok (.iadd, 1) := by decide +kernel
theorem dL_law_1363 : decode mL_law.2.1 1363 = .ok (.iaload, 1) := by decide +kernel
theorem dL_law_1364 : decode mL_law.2.1 1364 = .ok (.aload_n 0, 1) := by decide +kernel
theorem dL_law_1365 : decode mL_law.2.1 1365 = .ok (.iload_n 3, 1) := by decide +kernel
theorem dL_law_1366 : decode mL_law.2.1 1366 = .ok (.iconst 2, 1) := by decide +kernel
theorem dL_law_1367 : decode mL_law.2.1 1367 = .ok (.iadd, 1) := by decide +kernel
theorem dL_law_1368 : decode mL_law.2.1 1368 = .ok (.iaload, 1) := by decide +kernel
theorem dL_law_1369 : decode mL_law.2.1 1369 = .ok (.invokevirtual 152, 3) := by decide +kernel
theorem dL_law_1372 : decode mL_law.2.1 1372 = .ok (.aload_n 2, 1) := by decide +kernel
theorem dL_law_1373 : decode mL_law.2.1 1373 = .ok (.aload_n 0, 1) := by decide +kernel
theorem dL_law_1374 : decode mL_law.2.1 1374 = .ok (.iload_n 3, 1) := by decide +kernel
theorem dL_law_1375 : decode mL_law.2.1 1375 = .ok (.iconst 1, 1) := by decide +kernel
theorem dL_law_1376 : decode mL_law.2.1 1376 = .ok (.iadd, 1) := by decide +kernel
theorem dL_law_1377 : decode mL_law.2.1 1377 = .ok (.iaload, 1) := by decide +kernel
theorem dL_law_1378 : decode mL_law.2.1 1378 = .ok (.aload_n 0, 1) := by decide +kernel
theorem dL_law_1379 : decode mL_law.2.1 1379 = .ok (.iload_n 3, 1) := by decide +kernel
theorem dL_law_1380 : decode mL_law.2.1 1380 = .ok (.iconst 2, 1) := by decide +kernel
theorem dL_law_1381 : decode mL_law.2.1 1381 = .ok (.iadd, 1) := by decide +kernel
theorem dL_law_1382 : decode mL_law.2.1 1382 = .ok (.iaload, 1) := by decide +kernel
theorem dL_law_1383 : decode mL_law.2.1 1383 = .ok (.invokevirtual 155, 3) := by decide +kernel
theorem dL_law_1386 : decode mL_law.2.1 1386 = .ok (.lcmp, 1) := by decide +kernel
theorem dL_law_1387 : decode mL_law.2.1 1387 = .ok (.ifCond .eq 502, 3) := by decide +kernel
theorem dL_law_1390 : decode mL_law.2.1 1390 = .ok (.iconst 0, 1) := by decide +kernel
theorem dL_law_1391 : decode mL_law.2.1 1391 = .ok (.ireturn, 1) := by decide +kernel
theorem dL_law_1392 : decode mL_law.2.1 1392 = .ok (.aload_n 1, 1) := by decide +kernel
theorem dL_law_1393 : decode mL_law.2.1 1393 = .ok (.aload_n 0, 1) := by decide +kernel
theorem dL_law_1394 : decode mL_law.2.1 1394 = .ok (.iload_n 3, 1) := by decide +kernel
theorem dL_law_1395 : decode mL_law.2.1 1395 = .ok (.iconst 1, 1) := by decide +kernel
theorem dL_law_1396 : decode mL_law.2.1 1396 = .ok (.iadd, 1) := by decide +kernel
theorem dL_law_1397 : decode mL_law.2.1 1397 = .ok (.iaload, 1) := by decide +kernel
theorem dL_law_1398 : decode mL_law.2.1 1398 = .ok (.aload_n 0, 1) := by decide +kernel
theorem dL_law_1399 : decode mL_law.2.1 1399 = .ok (.iload_n 3, 1) := by decide +kernel
theorem dL_law_1400 : decode mL_law.2.1 1400 = .ok (.iconst 2, 1) := by decide +kernel
theorem dL_law_1401 : decode mL_law.2.1 1401 = .ok (.iadd, 1) := by decide +kernel
theorem dL_law_1402 : decode mL_law.2.1 1402 = .ok (.iaload, 1) := by decide +kernel
theorem dL_law_1403 : decode mL_law.2.1 1403 = .ok (.invokevirtual 156, 3) := by decide +kernel
theorem dL_law_1406 : decode mL_law.2.1 1406 = .ok (.aload_n 2, 1) := by decide +kernel
theorem dL_law_1407 : decode mL_law.2.1 1407 = .ok (.aload_n 0, 1) := by decide +kernel
theorem dL_law_1408 : decode mL_law.2.1 1408 = .ok (.iload_n 3, 1) := by decide +kernel
theorem dL_law_1409 : decode mL_law.2.1 1409 = .ok (.iconst 1, 1) := by decide +kernel
theorem dL_law_1410 : decode mL_law.2.1 1410 = .ok (.iadd, 1) := by decide +kernel
theorem dL_law_1411 : decode mL_law.2.1 1411 = .ok (.iaload, 1) := by decide +kernel
theorem dL_law_1412 : decode mL_law.2.1 1412 = .ok (.aload_n 0, 1) := by decide +kernel
theorem dL_law_1413 : decode mL_law.2.1 1413 = .ok (.iload_n 3, 1) := by decide +kernel
theorem dL_law_1414 : decode mL_law.2.1 1414 = .ok (.iconst 2, 1) := by decide +kernel
theorem dL_law_1415 : decode mL_law.2.1 1415 = .ok (.iadd, 1) := by decide +kernel
theorem dL_law_1416 : decode mL_law.2.1 1416 = .ok (.iaload, 1) := by decide +kernel
theorem dL_law_1417 : decode mL_law.2.1 1417 = .ok (.invokevirtual 159, 3) := by decide +kernel
theorem dL_law_1420 : decode mL_law.2.1 1420 = .ok (.lcmp, 1) := by decide +kernel
theorem dL_law_1421 : decode mL_law.2.1 1421 = .ok (.ifCond .eq 468, 3) := by decide +kernel
theorem dL_law_1424 : decode mL_law.2.1 1424 = .ok (.iconst 0, 1) := by decide +kernel
theorem dL_law_1425 : decode mL_law.2.1 1425 = .ok (.ireturn, 1) := by decide +kernel
theorem dL_law_1426 : decode mL_law.2.1 1426 = .ok (.aload_n 1, 1) := by decide +kernel
theorem dL_law_1427 : decode mL_law.2.1 1427 = .ok (.aload_n 0, 1) := by decide +kernel
theorem dL_law_1428 : decode mL_law.2.1 1428 = .ok (.iload_n 3, 1) := by decide +kernel
theorem dL_law_1429 : decode mL_law.2.1 1429 = .ok (.iconst 1, 1) := by decide +kernel
theorem dL_law_1430 : decode mL_law.2.1 1430 = .ok (.iadd, 1) := by decide +kernel
theorem dL_law_1431 : decode mL_law.2.1 1431 = .ok (.iaload, 1) := by decide +kernel
theorem dL_law_1432 : decode mL_law.2.1 1432 = .ok (.aload_n 0, 1) := by decide +kernel
theorem dL_law_1433 : decode mL_law.2.1 1433 = .ok (.iload_n 3, 1) := by decide +kernel
theorem dL_law_1434 : decode mL_law.2.1 1434 = .ok (.iconst 2, 1) := by decide +kernel
theorem dL_law_1435 : decode mL_law.2.1 1435 = .ok (.iadd, 1) := by decide +kernel
theorem dL_law_1436 : decode mL_law.2.1 1436 = .ok (.iaload, 1) := by decide +kernel
theorem dL_law_1437 : decode mL_law.2.1 1437 = .ok (.aload_n 0, 1) := by decide +kernel
theorem dL_law_1438 : decode mL_law.2.1 1438 = .ok (.iload_n 3, 1) := by decide +kernel
theorem dL_law_1439 : decode mL_law.2.1 1439 = .ok (.iconst 3, 1) := by decide +kernel
theorem dL_law_1440 : decode mL_law.2.1 1440 = .ok (.iadd, 1) := by decide +kernel
theorem dL_law_1441 : decode mL_law.2.1 1441 = .ok (.iaload, 1) := by decide +kernel
theorem dL_law_1442 : decode mL_law.2.1 1442 = .ok (.aload_n 0, 1) := by decide +kernel
theorem dL_law_1443 : decode mL_law.2.1 1443 = .ok (.iload_n 3, 1) := by decide +kernel
theorem dL_law_1444 : decode mL_law.2.1 1444 = .ok (.iconst 4, 1) := by decide +kernel
theorem dL_law_1445 : decode mL_law.2.1 1445 = .ok (.iadd, 1) := by decide +kernel
theorem dL_law_1446 : decode mL_law.2.1 1446 = .ok (.iaload, 1) := by decide +kernel
theorem dL_law_1447 : decode mL_law.2.1 1447 = .ok (.invokevirtual 160, 3) := by decide +kernel
theorem dL_law_1450 : decode mL_law.2.1 1450 = .ok (.aload_n 2, 1) := by decide +kernel
theorem dL_law_1451 : decode mL_law.2.1 1451 = .ok (.aload_n 0, 1) := by decide +kernel
theorem dL_law_1452 : decode mL_law.2.1 1452 = .ok (.iload_n 3, 1) := by decide +kernel
theorem dL_law_1453 : decode mL_law.2.1 1453 = .ok (.iconst 1, 1) := by decide +kernel
theorem dL_law_1454 : decode mL_law.2.1 1454 = .ok (.iadd, 1) := by decide +kernel
theorem dL_law_1455 : decode mL_law.2.1 1455 = .ok (.iaload, 1) := by decide +kernel
theorem dL_law_1456 : decode mL_law.2.1 1456 = .ok (.aload_n 0, 1) := by decide +kernel
theorem dL_law_1457 : decode mL_law.2.1 1457 = .ok (.iload_n 3, 1) := by decide +kernel
theorem dL_law_1458 : decode mL_law.2.1 1458 = .ok (.iconst 2, 1) := by decide +kernel
theorem dL_law_1459 : decode mL_law.2.1 1459 = .ok (.iadd, 1) := by decide +kernel
theorem dL_law_1460 : decode mL_law.2.1 1460 = .ok (.iaload, 1) := by decide +kernel
theorem dL_law_1461 : decode mL_law.2.1 1461 = .ok (.aload_n 0, 1) := by decide +kernel
theorem dL_law_1462 : decode mL_law.2.1 1462 = .ok (.iload_n 3, 1) := by decide +kernel
theorem dL_law_1463 : decode mL_law.2.1 1463 = .ok (.iconst 3, 1) := by decide +kernel
theorem dL_law_1464 : decode mL_law.2.1 1464 = .ok (.iadd, 1) := by decide +kernel
theorem dL_law_1465 : decode mL_law.2.1 1465 = .ok (.iaload, 1) := by decide +kernel
theorem dL_law_1466 : decode mL_law.2.1 1466 = .ok (.aload_n 0, 1) := by decide +kernel
theorem dL_law_1467 : decode mL_law.2.1 1467 = .ok (.iload_n 3, 1) := by decide +kernel
theorem dL_law_1468 : decode mL_law.2.1 1468 = .ok (.iconst 4, 1) := by decide +kernel
theorem dL_law_1469 : decode mL_law.2.1 1469 = .ok (.iadd, 1) := by decide +kernel
theorem dL_law_1470 : decode mL_law.2.1 1470 = .ok (.iaload, 1) := by decide +kernel
theorem dL_law_1471 : decode mL_law.2.1 1471 = .ok (.invokevirtual 163, 3) := by decide +kernel
theorem dL_law_1474 : decode mL_law.2.1 1474 = .ok (.if_icmp .eq 415, 3) := by decide +kernel
theorem dL_law_1477 : decode mL_law.2.1 1477 = .ok (.iconst 0, 1) := by decide +kernel
theorem dL_law_1478 : decode mL_law.2.1 1478 = .ok (.ireturn, 1) := by decide +kernel
theorem dL_law_1479 : decode mL_law.2.1 1479 = .ok (.aload_n 1, 1) := by decide +kernel
theorem dL_law_1480 : decode mL_law.2.1 1480 = .ok (.aload_n 0, 1) := by decide +kernel
theorem dL_law_1481 : decode mL_law.2.1 1481 = .ok (.iload_n 3, 1) := by decide +kernel
theorem dL_law_1482 : decode mL_law.2.1 1482 = .ok (.iconst 1, 1) := by decide +kernel
theorem dL_law_1483 : decode mL_law.2.1 1483 = .ok (.iadd, 1) := by decide +kernel
theorem dL_law_1484 : decode mL_law.2.1 1484 = .ok (.iaload, 1) := by decide +kernel
theorem dL_law_1485 : decode mL_law.2.1 1485 = .ok (.invokevirtual 164, 3) := by decide +kernel
theorem dL_law_1488 : decode mL_law.2.1 1488 = .ok (.aload_n 2, 1) := by decide +kernel
theorem dL_law_1489 : decode mL_law.2.1 1489 = .ok (.aload_n 0, 1) := by decide +kernel
theorem dL_law_1490 : decode mL_law.2.1 1490 = .ok (.iload_n 3, 1) := by decide +kernel
theorem dL_law_1491 : decode mL_law.2.1 1491 = .ok (.iconst 1, 1) := by decide +kernel
theorem dL_law_1492 : decode mL_law.2.1 1492 = .ok (.iadd, 1) := by decide +kernel
theorem dL_law_1493 : decode mL_law.2.1 1493 = .ok (.iaload, 1) := by decide +kernel
theorem dL_law_1494 : decode mL_law.2.1 1494 = .ok (.invokevirtual 167, 3) := by decide +kernel
theorem dL_law_1497 : decode mL_law.2.1 1497 = .ok (.if_icmp .eq 392, 3) := by decide +kernel
theorem dL_law_1500 : decode mL_law.2.1 1500 = .ok (.iconst 0, 1) := by decide +kernel
theorem dL_law_1501 : decode mL_law.2.1 1501 = .ok (.ireturn, 1) := by decide +kernel
theorem dL_law_1502 : decode mL_law.2.1 1502 = .ok (.aload_n 1, 1) := by decide +kernel
theorem dL_law_1503 : decode mL_law.2.1 1503 = .ok (.aload_n 0, 1) := by decide +kernel
theorem dL_law_1504 : decode mL_law.2.1 1504 = .ok (.iload_n 3, 1) := by decide +kernel
theorem dL_law_1505 : decode mL_law.2.1 1505 = .ok (.iconst 1, 1) := by decide +kernel
theorem dL_law_1506 : decode mL_law.2.1 1506 = .ok (.iadd, 1) := by decide +kernel
theorem dL_law_1507 : decode mL_law.2.1 1507 = .ok (.iaload, 1) := by decide +kernel
theorem dL_law_1508 : decode mL_law.2.1 1508 = .ok (.invokevirtual 168, 3) := by decide +kernel
theorem dL_law_1511 : decode mL_law.2.1 1511 = .ok (.aload_n 2, 1) := by decide +kernel
theorem dL_law_1512 : decode mL_law.2.1 1512 = .ok (.aload_n 0, 1) := by decide +kernel
theorem dL_law_1513 : decode mL_law.2.1 1513 = .ok (.iload_n 3, 1) := by decide +kernel
theorem dL_law_1514 : decode mL_law.2.1 1514 = .ok (.iconst 1, 1) := by decide +kernel
theorem dL_law_1515 : decode mL_law.2.1 1515 = .ok (.iadd, 1) := by decide +kernel
theorem dL_law_1516 : decode mL_law.2.1 1516 = .ok (.iaload, 1) := by decide +kernel
theorem dL_law_1517 : decode mL_law.2.1 1517 = .ok (.invokevirtual 171, 3) := by decide +kernel
theorem dL_law_1520 : decode mL_law.2.1 1520 = .ok (.if_icmp .eq 369, 3) := by decide +kernel
theorem dL_law_1523 : decode mL_law.2.1 1523 = .ok (.iconst 0, 1) := by decide +kernel
theorem dL_law_1524 : decode mL_law.2.1 1524 = .ok (.ireturn, 1) := by decide +kernel
theorem dL_law_1525 : decode mL_law.2.1 1525 = .ok (.aload_n 1, 1) := by decide +kernel
theorem dL_law_1526 : decode mL_law.2.1 1526 = .ok (.aload_n 0, 1) := by decide +kernel
theorem dL_law_1527 : decode mL_law.2.1 1527 = .ok (.iload_n 3, 1) := by decide +kernel
theorem dL_law_1528 : decode mL_law.2.1 1528 = .ok (.iconst 1, 1) := by decide +kernel
theorem dL_law_1529 : decode mL_law.2.1 1529 = .ok (.iadd, 1) := by decide +kernel
theorem dL_law_1530 : decode mL_law.2.1 1530 = .ok (.iaload, 1) := by decide +kernel
theorem dL_law_1531 : decode mL_law.2.1 1531 = .ok (.invokevirtual 172, 3) := by decide +kernel
theorem dL_law_1534 : decode mL_law.2.1 1534 = .ok (.aload_n 2, 1) := by decide +kernel
theorem dL_law_1535 : decode mL_law.2.1 1535 = .ok (.aload_n 0, 1) := by decide +kernel
theorem dL_law_1536 : decode mL_law.2.1 1536 = .ok (.iload_n 3, 1) := by decide +kernel
theorem dL_law_1537 : decode mL_law.2.1 1537 = .ok (.iconst 1, 1) := by decide +kernel
theorem dL_law_1538 : decode mL_law.2.1 1538 = .ok (.iadd, 1) := by decide +kernel
theorem dL_law_1539 : decode mL_law.2.1 1539 = .ok (.iaload, 1) := by decide +kernel
theorem dL_law_1540 : decode mL_law.2.1 1540 = .ok (.invokevirtual 175, 3) := by decide +kernel
theorem dL_law_1543 : decode mL_law.2.1 1543 = .ok (.if_icmp .eq 346, 3) := by decide +kernel
theorem dL_law_1546 : decode mL_law.2.1 1546 = .ok (.iconst 0, 1) := by decide +kernel
theorem dL_law_1547 : decode mL_law.2.1 1547 = .ok (.ireturn, 1) := by decide +kernel
theorem dL_law_1548 : decode mL_law.2.1 1548 = .ok (.aload_n 1, 1) := by decide +kernel
theorem dL_law_1549 : decode mL_law.2.1 1549 = .ok (.aload_n 0, 1) := by decide +kernel
theorem dL_law_1550 : decode mL_law.2.1 1550 = .ok (.iload_n 3, 1) := by decide +kernel
theorem dL_law_1551 : decode mL_law.2.1 1551 = .ok (.iconst 1, 1) := by decide +kernel
theorem dL_law_1552 : decode mL_law.2.1 1552 = .ok (.iadd, 1) := by decide +kernel
theorem dL_law_1553 : decode mL_law.2.1 1553 = .ok (.iaload, 1) := by decide +kernel
theorem dL_law_1554 : decode mL_law.2.1 1554 = .ok (.invokevirtual 176, 3) := by decide +kernel
theorem dL_law_1557 : decode mL_law.2.1 1557 = .ok (.aload_n 2, 1) := by decide +kernel
theorem dL_law_1558 : decode mL_law.2.1 1558 = .ok (.aload_n 0, 1) := by decide +kernel
theorem dL_law_1559 : decode mL_law.2.1 1559 = .ok (.iload_n 3, 1) := by decide +kernel
theorem dL_law_1560 : decode mL_law.2.1 1560 = .ok (.iconst 1, 1) := by decide +kernel
theorem dL_law_1561 : decode mL_law.2.1 1561 = .ok (.iadd, 1) := by decide +kernel
theorem dL_law_1562 : decode mL_law.2.1 1562 = .ok (.iaload, 1) := by decide +kernel
theorem dL_law_1563 : decode mL_law.2.1 1563 = .ok (.invokevirtual 179, 3) := by decide +kernel
theorem dL_law_1566 : decode mL_law.2.1 1566 = .ok (.if_icmp .eq 323, 3) := by decide +kernel
theorem dL_law_1569 : decode mL_law.2.1 1569 = .ok (.iconst 0, 1) := by decide +kernel
theorem dL_law_1570 : decode mL_law.2.1 1570 = .ok (.ireturn, 1) := by decide +kernel
theorem dL_law_1571 : decode mL_law.2.1 1571 = .ok (.aload_n 1, 1) := by decide +kernel
theorem dL_law_1572 : decode mL_law.2.1 1572 = .ok (.invokevirtual 180, 3) := by decide +kernel
theorem dL_law_1575 : decode mL_law.2.1 1575 = .ok (.aload_n 2, 1) := by decide +kernel
theorem dL_law_1576 : decode mL_law.2.1 1576 = .ok (.invokevirtual 183, 3) := by decide +kernel
theorem dL_law_1579 : decode mL_law.2.1 1579 = .ok (.if_icmp .eq 310, 3) := by decide +kernel
theorem dL_law_1582 : decode mL_law.2.1 1582 = .ok (.iconst 0, 1) := by decide +kernel
theorem dL_law_1583 : decode mL_law.2.1 1583 = .ok (.ireturn, 1) := by decide +kernel
theorem dL_law_1584 : decode mL_law.2.1 1584 = .ok (.aload_n 1, 1) := by decide +kernel
theorem dL_law_1585 : decode mL_law.2.1 1585 = .ok (.aload_n 0, 1) := by decide +kernel
theorem dL_law_1586 : decode mL_law.2.1 1586 = .ok (.iload_n 3, 1) := by decide +kernel
theorem dL_law_1587 : decode mL_law.2.1 1587 = .ok (.iconst 1, 1) := by decide +kernel
theorem dL_law_1588 : decode mL_law.2.1 1588 = .ok (.iadd, 1) := by decide +kernel
theorem dL_law_1589 : decode mL_law.2.1 1589 = .ok (.iaload, 1) := by decide +kernel
theorem dL_law_1590 : decode mL_law.2.1 1590 = .ok (.aload_n 0, 1) := by decide +kernel
theorem dL_law_1591 : decode mL_law.2.1 1591 = .ok (.iload_n 3, 1) := by decide +kernel
theorem dL_law_1592 : decode mL_law.2.1 1592 = .ok (.iconst 2, 1) := by decide +kernel
theorem dL_law_1593 : decode mL_law.2.1 1593 = .ok (.iadd, 1) := by decide +kernel
theorem dL_law_1594 : decode mL_law.2.1 1594 = .ok (.iaload, 1) := by decide +kernel
theorem dL_law_1595 : decode mL_law.2.1 1595 = .ok (.aload_n 0, 1) := by decide +kernel
theorem dL_law_1596 : decode mL_law.2.1 1596 = .ok (.iload_n 3, 1) := by decide +kernel
theorem dL_law_1597 : decode mL_law.2.1 1597 = .ok (.iconst 3, 1) := by decide +kernel
theorem dL_law_1598 : decode mL_law.2.1 1598 = .ok (.iadd, 1) := by decide +kernel
theorem dL_law_1599 : decode mL_law.2.1 1599 = .ok (.iaload, 1) := by decide +kernel
theorem dL_law_1600 : decode mL_law.2.1 1600 = .ok (.invokevirtual 184, 3) := by decide +kernel
theorem dL_law_1603 : decode mL_law.2.1 1603 = .ok (.aload_n 2, 1) := by decide +kernel
theorem dL_law_1604 : decode mL_law.2.1 1604 = .ok (.aload_n 0, 1) := by decide +kernel
theorem dL_law_1605 : decode mL_law.2.1 1605 = .ok (.iload_n 3, 1) := by decide +kernel
theorem dL_law_1606 : decode mL_law.2.1 1606 = .ok (.iconst 1, 1) := by decide +kernel
theorem dL_law_1607 : decode mL_law.2.1 1607 = .ok (.iadd, 1) := by decide +kernel
theorem dL_law_1608 : decode mL_law.2.1 1608 = .ok (.iaload, 1) := by decide +kernel
theorem dL_law_1609 : decode mL_law.2.1 1609 = .ok (.aload_n 0, 1) := by decide +kernel
theorem dL_law_1610 : decode mL_law.2.1 1610 = .ok (.iload_n 3, 1) := by decide +kernel
theorem dL_law_1611 : decode mL_law.2.1 1611 = .ok (.iconst 2, 1) := by decide +kernel
theorem dL_law_1612 : decode mL_law.2.1 1612 = .ok (.iadd, 1) := by decide +kernel
theorem dL_law_1613 : decode mL_law.2.1 1613 = .ok (.iaload, 1) := by decide +kernel
theorem dL_law_1614 : decode mL_law.2.1 1614 = .ok (.aload_n 0, 1) := by decide +kernel
theorem dL_law_1615 : decode mL_law.2.1 1615 = .ok (.iload_n 3, 1) := by decide +kernel
theorem dL_law_1616 : decode mL_law.2.1 1616 = .ok (.iconst 3, 1) := by decide +kernel
theorem dL_law_1617 : decode mL_law.2.1 1617 = .ok (.iadd, 1) := by decide +kernel
theorem dL_law_1618 : decode mL_law.2.1 1618 = .ok (.iaload, 1) := by decide +kernel
theorem dL_law_1619 : decode mL_law.2.1 1619 = .ok (.invokevirtual 187, 3) := by decide +kernel
theorem dL_law_1622 : decode mL_law.2.1 1622 = .ok (.if_icmp .eq 267, 3) := by decide +kernel
theorem dL_law_1625 : decode mL_law.2.1 1625 = .ok (.iconst 0, 1) := by decide +kernel
theorem dL_law_1626 : decode mL_law.2.1 1626 = .ok (.ireturn, 1) := by decide +kernel
theorem dL_law_1627 : decode mL_law.2.1 1627 = .ok (.aload_n 1, 1) := by decide +kernel
theorem dL_law_1628 : decode mL_law.2.1 1628 = .ok (.invokevirtual 188, 3) := by decide +kernel
theorem dL_law_1631 : decode mL_law.2.1 1631 = .ok (.aload_n 2, 1) := by decide +kernel
theorem dL_law_1632 : decode mL_law.2.1 1632 = .ok (.invokevirtual 191, 3) := by decide +kernel
theorem dL_law_1635 : decode mL_law.2.1 1635 = .ok (.if_icmp .eq 254, 3) := by decide +kernel
theorem dL_law_1638 : decode mL_law.2.1 1638 = .ok (.iconst 0, 1) := by decide +kernel
theorem dL_law_1639 : decode mL_law.2.1 1639 = .ok (.ireturn, 1) := by decide +kernel
theorem dL_law_1640 : decode mL_law.2.1 1640 = .ok (.aload_n 1, 1) := by decide +kernel
theorem dL_law_1641 : decode mL_law.2.1 1641 = .ok (.invokevirtual 192, 3) := by decide +kernel
theorem dL_law_1644 : decode mL_law.2.1 1644 = .ok (.aload_n 2, 1) := by decide +kernel
theorem dL_law_1645 : decode mL_law.2.1 1645 = .ok (.invokevirtual 195, 3) := by decide +kernel
theorem dL_law_1648 : decode mL_law.2.1 1648 = .ok (.if_icmp .eq 241, 3) := by decide +kernel
theorem dL_law_1651 : decode mL_law.2.1 1651 = .ok (.iconst 0, 1) := by decide +kernel
theorem dL_law_1652 : decode mL_law.2.1 1652 = .ok (.ireturn, 1) := by decide +kernel
theorem dL_law_1653 : decode mL_law.2.1 1653 = .ok (.aload_n 1, 1) := by decide +kernel
theorem dL_law_1654 : decode mL_law.2.1 1654 = .ok (.aload_n 0, 1) := by decide +kernel
theorem dL_law_1655 : decode mL_law.2.1 1655 = .ok (.iload_n 3, 1) := by decide +kernel
theorem dL_law_1656 : decode mL_law.2.1 1656 = .ok (.iconst 1, 1) := by decide +kernel
theorem dL_law_1657 : decode mL_law.2.1 1657 = .ok (.iadd, 1) := by decide +kernel
theorem dL_law_1658 : decode mL_law.2.1 1658 = .ok (.iaload, 1) := by decide +kernel
theorem dL_law_1659 : decode mL_law.2.1 1659 = .ok (.invokevirtual 196, 3) := by decide +kernel
theorem dL_law_1662 : decode mL_law.2.1 1662 = .ok (.aload_n 2, 1) := by decide +kernel
theorem dL_law_1663 : decode mL_law.2.1 1663 = .ok (.aload_n 0, 1) := by decide +kernel
theorem dL_law_1664 : decode mL_law.2.1 1664 = .ok (.iload_n 3, 1) := by decide +kernel
theorem dL_law_1665 : decode mL_law.2.1 1665 = .ok (.iconst 1, 1) := by decide +kernel
theorem dL_law_1666 : decode mL_law.2.1 1666 = .ok (.iadd, 1) := by decide +kernel
theorem dL_law_1667 : decode mL_law.2.1 1667 = .ok (.iaload, 1) := by decide +kernel
theorem dL_law_1668 : decode mL_law.2.1 1668 = .ok (.invokevirtual 199, 3) := by decide +kernel
theorem dL_law_1671 : decode mL_law.2.1 1671 = .ok (.if_icmp .eq 218, 3) := by decide +kernel
theorem dL_law_1674 : decode mL_law.2.1 1674 = .ok (.iconst 0, 1) := by decide +kernel
theorem dL_law_1675 : decode mL_law.2.1 1675 = .ok (.ireturn, 1) := by decide +kernel
theorem dL_law_1676 : decode mL_law.2.1 1676 = .ok (.aload_n 1, 1) := by decide +kernel
theorem dL_law_1677 : decode mL_law.2.1 1677 = .ok (.aload_n 0, 1) := by decide +kernel
theorem dL_law_1678 : decode mL_law.2.1 1678 = .ok (.iload_n 3, 1) := by decide +kernel
theorem dL_law_1679 : decode mL_law.2.1 1679 = .ok (.iconst 1, 1) := by decide +kernel
theorem dL_law_1680 : decode mL_law.2.1 1680 = .ok (.iadd, 1) := by decide +kernel
theorem dL_law_1681 : decode mL_law.2.1 1681 = .ok (.iaload, 1) := by decide +kernel
theorem dL_law_1682 : decode mL_law.2.1 1682 = .ok (.aload_n 0, 1) := by decide +kernel
theorem dL_law_1683 : decode mL_law.2.1 1683 = .ok (.iload_n 3, 1) := by decide +kernel
theorem dL_law_1684 : decode mL_law.2.1 1684 = .ok (.iconst 2, 1) := by decide +kernel
theorem dL_law_1685 : decode mL_law.2.1 1685 = .ok (.iadd, 1) := by decide +kernel
theorem dL_law_1686 : decode mL_law.2.1 1686 = .ok (.iaload, 1) := by decide +kernel
theorem dL_law_1687 : decode mL_law.2.1 1687 = .ok (.aload_n 0, 1) := by decide +kernel
theorem dL_law_1688 : decode mL_law.2.1 1688 = .ok (.iload_n 3, 1) := by decide +kernel
theorem dL_law_1689 : decode mL_law.2.1 1689 = .ok (.iconst 3, 1) := by decide +kernel
theorem dL_law_1690 : decode mL_law.2.1 1690 = .ok (.iadd, 1) := by decide +kernel
theorem dL_law_1691 : decode mL_law.2.1 1691 = .ok (.iaload, 1) := by decide +kernel
theorem dL_law_1692 : decode mL_law.2.1 1692 = .ok (.invokevirtual 200, 3) := by decide +kernel
theorem dL_law_1695 : decode mL_law.2.1 1695 = .ok (.aload_n 2, 1) := by decide +kernel
theorem dL_law_1696 : decode mL_law.2.1 1696 = .ok (.aload_n 0, 1) := by decide +kernel
theorem dL_law_1697 : decode mL_law.2.1 1697 = .ok (.iload_n 3, 1) := by decide +kernel
theorem dL_law_1698 : decode mL_law.2.1 1698 = .ok (.iconst 1, 1) := by decide +kernel
theorem dL_law_1699 : decode mL_law.2.1 1699 = .ok (.iadd, 1) := by decide +kernel
theorem dL_law_1700 : decode mL_law.2.1 1700 = .ok (.iaload, 1) := by decide +kernel
theorem dL_law_1701 : decode mL_law.2.1 1701 = .ok (.aload_n 0, 1) := by decide +kernel
theorem dL_law_1702 : decode mL_law.2.1 1702 = .ok (.iload_n 3, 1) := by decide +kernel
theorem dL_law_1703 : decode mL_law.2.1 1703 = .ok (.iconst 2, 1) := by decide +kernel
theorem dL_law_1704 : decode mL_law.2.1 1704 = .ok (.iadd, 1) := by decide +kernel
theorem dL_law_1705 : decode mL_law.2.1 1705 = .ok (.iaload, 1) := by decide +kernel
theorem dL_law_1706 : decode mL_law.2.1 1706 = .ok (.aload_n 0, 1) := by decide +kernel
theorem dL_law_1707 : decode mL_law.2.1 1707 = .ok (.iload_n 3, 1) := by decide +kernel
theorem dL_law_1708 : decode mL_law.2.1 1708 = .ok (.iconst 3, 1) := by decide +kernel
theorem dL_law_1709 : decode mL_law.2.1 1709 = .ok (.iadd, 1) := by decide +kernel
theorem dL_law_1710 : decode mL_law.2.1 1710 = .ok (.iaload, 1) := by decide +kernel
theorem dL_law_1711 : decode mL_law.2.1 1711 = .ok (.invokevirtual 203, 3) := by decide +kernel
theorem dL_law_1714 : decode mL_law.2.1 1714 = .ok (.if_icmp .eq 175, 3) := by decide +kernel
theorem dL_law_1717 : decode mL_law.2.1 1717 = .ok (.iconst 0, 1) := by decide +kernel
theorem dL_law_1718 : decode mL_law.2.1 1718 = .ok (.ireturn, 1) := by decide +kernel
theorem dL_law_1719 : decode mL_law.2.1 1719 = .ok (.aload_n 1, 1) := by decide +kernel
theorem dL_law_1720 : decode mL_law.2.1 1720 = .ok (.aload_n 0, 1) := by decide +kernel
theorem dL_law_1721 : decode mL_law.2.1 1721 = .ok (.iload_n 3, 1) := by decide +kernel
theorem dL_law_1722 : decode mL_law.2.1 1722 = .ok (.iconst 1, 1) := by decide +kernel
theorem dL_law_1723 : decode mL_law.2.1 1723 = .ok (.iadd, 1) := by decide +kernel
theorem dL_law_1724 : decode mL_law.2.1 1724 = .ok (.iaload, 1) := by decide +kernel
theorem dL_law_1725 : decode mL_law.2.1 1725 = .ok (.aload_n 0, 1) := by decide +kernel
theorem dL_law_1726 : decode mL_law.2.1 1726 = .ok (.iload_n 3, 1) := by decide +kernel
theorem dL_law_1727 : decode mL_law.2.1 1727 = .ok (.iconst 2, 1) := by decide +kernel
theorem dL_law_1728 : decode mL_law.2.1 1728 = .ok (.iadd, 1) := by decide +kernel
theorem dL_law_1729 : decode mL_law.2.1 1729 = .ok (.iaload, 1) := by decide +kernel
theorem dL_law_1730 : decode mL_law.2.1 1730 = .ok (.aload_n 0, 1) := by decide +kernel
theorem dL_law_1731 : decode mL_law.2.1 1731 = .ok (.iload_n 3, 1) := by decide +kernel
theorem dL_law_1732 : decode mL_law.2.1 1732 = .ok (.iconst 3, 1) := by decide +kernel
theorem dL_law_1733 : decode mL_law.2.1 1733 = .ok (.iadd, 1) := by decide +kernel
theorem dL_law_1734 : decode mL_law.2.1 1734 = .ok (.iaload, 1) := by decide +kernel
theorem dL_law_1735 : decode mL_law.2.1 1735 = .ok (.i2l, 1) := by decide +kernel
theorem dL_law_1736 : decode mL_law.2.1 1736 = .ok (.bipush 32, 2) := by decide +kernel
theorem dL_law_1738 : decode mL_law.2.1 1738 = .ok (.lshl, 1) := by decide +kernel
theorem dL_law_1739 : decode mL_law.2.1 1739 = .ok (.aload_n 0, 1) := by decide +kernel
theorem dL_law_1740 : decode mL_law.2.1 1740 = .ok (.iload_n 3, 1) := by decide +kernel
theorem dL_law_1741 : decode mL_law.2.1 1741 = .ok (.iconst 4, 1) := by decide +kernel
theorem dL_law_1742 : decode mL_law.2.1 1742 = .ok (.iadd, 1) := by decide +kernel
theorem dL_law_1743 : decode mL_law.2.1 1743 = .ok (.iaload, 1) := by decide +kernel
theorem dL_law_1744 : decode mL_law.2.1 1744 = .ok (.i2l, 1) := by decide +kernel
theorem dL_law_1745 : decode mL_law.2.1 1745 = .ok (.ldc2_w 204, 3) := by decide +kernel
theorem dL_law_1748 : decode mL_law.2.1 1748 = .ok (.land, 1) := by decide +kernel
theorem dL_law_1749 : decode mL_law.2.1 1749 = .ok (.lor, 1) := by decide +kernel
theorem dL_law_1750 : decode mL_law.2.1 1750 = .ok (.invokevirtual 206, 3) := by decide +kernel
theorem dL_law_1753 : decode mL_law.2.1 1753 = .ok (.aload_n 2, 1) := by decide +kernel
theorem dL_law_1754 : decode mL_law.2.1 1754 = .ok (.aload_n 0, 1) := by decide +kernel
theorem dL_law_1755 : decode mL_law.2.1 1755 = .ok (.iload_n 3, 1) := by decide +kernel
theorem dL_law_1756 : decode mL_law.2.1 1756 = .ok (.iconst 1, 1) := by decide +kernel
theorem dL_law_1757 : decode mL_law.2.1 1757 = .ok (.iadd, 1) := by decide +kernel
theorem dL_law_1758 : decode mL_law.2.1 1758 = .ok (.iaload, 1) := by decide +kernel
theorem dL_law_1759 : decode mL_law.2.1 1759 = .ok (.aload_n 0, 1) := by decide +kernel
theorem dL_law_1760 : decode mL_law.2.1 1760 = .ok (.iload_n 3, 1) := by decide +kernel
theorem dL_law_1761 : decode mL_law.2.1 1761 = .ok (.iconst 2, 1) := by decide +kernel
theorem dL_law_1762 : decode mL_law.2.1 1762 = .ok (.iadd, 1) := by decide +kernel
theorem dL_law_1763 : decode mL_law.2.1 1763 = .ok (.iaload, 1) := by decide +kernel
theorem dL_law_1764 : decode mL_law.2.1 1764 = .ok (.aload_n 0, 1) := by decide +kernel
theorem dL_law_1765 : decode mL_law.2.1 1765 = .ok (.iload_n 3, 1) := by decide +kernel
theorem dL_law_1766 : decode mL_law.2.1 1766 = .ok (.iconst 3, 1) := by decide +kernel
theorem dL_law_1767 : decode mL_law.2.1 1767 = .ok (.iadd, 1) := by decide +kernel
theorem dL_law_1768 : decode mL_law.2.1 1768 = .ok (.iaload, 1) := by decide +kernel
theorem dL_law_1769 : decode mL_law.2.1 1769 = .ok (.i2l, 1) := by decide +kernel
theorem dL_law_1770 : decode mL_law.2.1 1770 = .ok (.bipush 32, 2) := by decide +kernel
theorem dL_law_1772 : decode mL_law.2.1 1772 = .ok (.lshl, 1) := by decide +kernel
theorem dL_law_1773 : decode mL_law.2.1 1773 = .ok (.aload_n 0, 1) := by decide +kernel
theorem dL_law_1774 : decode mL_law.2.1 1774 = .ok (.iload_n 3, 1) := by decide +kernel
theorem dL_law_1775 : decode mL_law.2.1 1775 = .ok (.iconst 4, 1) := by decide +kernel
theorem dL_law_1776 : decode mL_law.2.1 1776 = .ok (.iadd, 1) := by decide +kernel
theorem dL_law_1777 : decode mL_law.2.1 1777 = .ok (.iaload, 1) := by decide +kernel
theorem dL_law_1778 : decode mL_law.2.1 1778 = .ok (.i2l, 1) := by decide +kernel
theorem dL_law_1779 : decode mL_law.2.1 1779 = .ok (.ldc2_w 204, 3) := by decide +kernel
theorem dL_law_1782 : decode mL_law.2.1 1782 = .ok (.land, 1) := by decide +kernel
theorem dL_law_1783 : decode mL_law.2.1 1783 = .ok (.lor, 1) := by decide +kernel
theorem dL_law_1784 : decode mL_law.2.1 1784 = .ok (.invokevirtual 210, 3) := by decide +kernel
theorem dL_law_1787 : decode mL_law.2.1 1787 = .ok (.if_icmp .eq 102, 3) := by decide +kernel
theorem dL_law_1790 : decode mL_law.2.1 1790 = .ok (.iconst 0, 1) := by decide +kernel
theorem dL_law_1791 : decode mL_law.2.1 1791 = .ok (.ireturn, 1) := by decide +kernel
theorem dL_law_1792 : decode mL_law.2.1 1792 = .ok (.aload_n 1, 1) := by decide +kernel
theorem dL_law_1793 : decode mL_law.2.1 1793 = .ok (.aload_n 0, 1) := by decide +kernel
theorem dL_law_1794 : decode mL_law.2.1 1794 = .ok (.iload_n 3, 1) := by decide +kernel
theorem dL_law_1795 : decode mL_law.2.1 1795 = .ok (.iconst 1, 1) := by decide +kernel
theorem dL_law_1796 : decode mL_law.2.1 1796 = .ok (.iadd, 1) := by decide +kernel
theorem dL_law_1797 : decode mL_law.2.1 1797 = .ok (.iaload, 1) := by decide +kernel
theorem dL_law_1798 : decode mL_law.2.1 1798 = .ok (.aload_n 0, 1) := by decide +kernel
theorem dL_law_1799 : decode mL_law.2.1 1799 = .ok (.iload_n 3, 1) := by decide +kernel
theorem dL_law_1800 : decode mL_law.2.1 1800 = .ok (.iconst 2, 1) := by decide +kernel
theorem dL_law_1801 : decode mL_law.2.1 1801 = .ok (.iadd, 1) := by decide +kernel
theorem dL_law_1802 : decode mL_law.2.1 1802 = .ok (.iaload, 1) := by decide +kernel
theorem dL_law_1803 : decode mL_law.2.1 1803 = .ok (.invokevirtual 211, 3) := by decide +kernel
theorem dL_law_1806 : decode mL_law.2.1 1806 = .ok (.aload_n 2, 1) := by decide +kernel
theorem dL_law_1807 : decode mL_law.2.1 1807 = .ok (.aload_n 0, 1) := by decide +kernel
theorem dL_law_1808 : decode mL_law.2.1 1808 = .ok (.iload_n 3, 1) := by decide +kernel
theorem dL_law_1809 : decode mL_law.2.1 1809 = .ok (.iconst 1, 1) := by decide +kernel
theorem dL_law_1810 : decode mL_law.2.1 1810 = .ok (.iadd, 1) := by decide +kernel
theorem dL_law_1811 : decode mL_law.2.1 1811 = .ok (.iaload, 1) := by decide +kernel
theorem dL_law_1812 : decode mL_law.2.1 1812 = .ok (.aload_n 0, 1) := by decide +kernel
theorem dL_law_1813 : decode mL_law.2.1 1813 = .ok (.iload_n 3, 1) := by decide +kernel
theorem dL_law_1814 : decode mL_law.2.1 1814 = .ok (.iconst 2, 1) := by decide +kernel
theorem dL_law_1815 : decode mL_law.2.1 1815 = .ok (.iadd, 1) := by decide +kernel
theorem dL_law_1816 : decode mL_law.2.1 1816 = .ok (.iaload, 1) := by decide +kernel
theorem dL_law_1817 : decode mL_law.2.1 1817 = .ok (.invokevirtual 214, 3) := by decide +kernel
theorem dL_law_1820 : decode mL_law.2.1 1820 = .ok (.lcmp, 1) := by decide +kernel
theorem dL_law_1821 : decode mL_law.2.1 1821 = .ok (.ifCond .eq 68, 3) := by decide +kernel
theorem dL_law_1824 : decode mL_law.2.1 1824 = .ok (.iconst 0, 1) := by decide +kernel
theorem dL_law_1825 : decode mL_law.2.1 1825 = .ok (.ireturn, 1) := by decide +kernel
theorem dL_law_1826 : decode mL_law.2.1 1826 = .ok (.aload_n 1, 1) := by decide +kernel
theorem dL_law_1827 : decode mL_law.2.1 1827 = .ok (.aload_n 0, 1) := by decide +kernel
theorem dL_law_1828 : decode mL_law.2.1 1828 = .ok (.iload_n 3, 1) := by decide +kernel
theorem dL_law_1829 : decode mL_law.2.1 1829 = .ok (.iconst 1, 1) := by decide +kernel
theorem dL_law_1830 : decode mL_law.2.1 1830 = .ok (.iadd, 1) := by decide +kernel
theorem dL_law_1831 : decode mL_law.2.1 1831 = .ok (.iaload, 1) := by decide +kernel
theorem dL_law_1832 : decode mL_law.2.1 1832 = .ok (.aload_n 0, 1) := by decide +kernel
theorem dL_law_1833 : decode mL_law.2.1 1833 = .ok (.iload_n 3, 1) := by decide +kernel
theorem dL_law_1834 : decode mL_law.2.1 1834 = .ok (.iconst 2, 1) := by decide +kernel
theorem dL_law_1835 : decode mL_law.2.1 1835 = .ok (.iadd, 1) := by decide +kernel
theorem dL_law_1836 : decode mL_law.2.1 1836 = .ok (.iaload, 1) := by decide +kernel
theorem dL_law_1837 : decode mL_law.2.1 1837 = .ok (.aload_n 0, 1) := by decide +kernel
theorem dL_law_1838 : decode mL_law.2.1 1838 = .ok (.iload_n 3, 1) := by decide +kernel
theorem dL_law_1839 : decode mL_law.2.1 1839 = .ok (.iconst 3, 1) := by decide +kernel
theorem dL_law_1840 : decode mL_law.2.1 1840 = .ok (.iadd, 1) := by decide +kernel
theorem dL_law_1841 : decode mL_law.2.1 1841 = .ok (.iaload, 1) := by decide +kernel
theorem dL_law_1842 : decode mL_law.2.1 1842 = .ok (.aload_n 0, 1) := by decide +kernel
theorem dL_law_1843 : decode mL_law.2.1 1843 = .ok (.iload_n 3, 1) := by decide +kernel
theorem dL_law_1844 : decode mL_law.2.1 1844 = .ok (.iconst 4, 1) := by decide +kernel
theorem dL_law_1845 : decode mL_law.2.1 1845 = .ok (.iadd, 1) := by decide +kernel
theorem dL_law_1846 : decode mL_law.2.1 1846 = .ok (.iaload, 1) := by decide +kernel
theorem dL_law_1847 : decode mL_law.2.1 1847 = .ok (.aload_n 0, 1) := by decide +kernel
theorem dL_law_1848 : decode mL_law.2.1 1848 = .ok (.iload_n 3, 1) := by decide +kernel
theorem dL_law_1849 : decode mL_law.2.1 1849 = .ok (.iconst 5, 1) := by decide +kernel
theorem dL_law_1850 : decode mL_law.2.1 1850 = .ok (.iadd, 1) := by decide +kernel
theorem dL_law_1851 : decode mL_law.2.1 1851 = .ok (.iaload, 1) := by decide +kernel
theorem dL_law_1852 : decode mL_law.2.1 1852 = .ok (.invokevirtual 215, 3) := by decide +kernel
theorem dL_law_1855 : decode mL_law.2.1 1855 = .ok (.aload_n 2, 1) := by decide +kernel
theorem dL_law_1856 : decode mL_law.2.1 1856 = .ok (.aload_n 0, 1) := by decide +kernel
theorem dL_law_1857 : decode mL_law.2.1 1857 = .ok (.iload_n 3, 1) := by decide +kernel
theorem dL_law_1858 : decode mL_law.2.1 1858 = .ok (.iconst 1, 1) := by decide +kernel
theorem dL_law_1859 : decode mL_law.2.1 1859 = .ok (.iadd, 1) := by decide +kernel
theorem dL_law_1860 : decode mL_law.2.1 1860 = .ok (.iaload, 1) := by decide +kernel
theorem dL_law_1861 : decode mL_law.2.1 1861 = .ok (.aload_n 0, 1) := by decide +kernel
theorem dL_law_1862 : decode mL_law.2.1 1862 = .ok (.iload_n 3, 1) := by decide +kernel
theorem dL_law_1863 : decode mL_law.2.1 1863 = .ok (.iconst 2, 1) := by decide +kernel
theorem dL_law_1864 : decode mL_law.2.1 1864 = .ok (.iadd, 1) := by decide +kernel
theorem dL_law_1865 : decode mL_law.2.1 1865 = .ok (.iaload, 1) := by decide +kernel
theorem dL_law_1866 : decode mL_law.2.1 1866 = .ok (.aload_n 0, 1) := by decide +kernel
theorem dL_law_1867 : decode mL_law.2.1 1867 = .ok (.iload_n 3, 1) := by decide +kernel
theorem dL_law_1868 : decode mL_law.2.1 1868 = .ok (.iconst 3, 1) := by decide +kernel
theorem dL_law_1869 : decode mL_law.2.1 1869 = .ok (.iadd, 1) := by decide +kernel
theorem dL_law_1870 : decode mL_law.2.1 1870 = .ok (.iaload, 1) := by decide +kernel
theorem dL_law_1871 : decode mL_law.2.1 1871 = .ok (.aload_n 0, 1) := by decide +kernel
theorem dL_law_1872 : decode mL_law.2.1 1872 = .ok (.iload_n 3, 1) := by decide +kernel
theorem dL_law_1873 : decode mL_law.2.1 1873 = .ok (.iconst 4, 1) := by decide +kernel
theorem dL_law_1874 : decode mL_law.2.1 1874 = .ok (.iadd, 1) := by decide +kernel
theorem dL_law_1875 : decode mL_law.2.1 1875 = .ok (.iaload, 1) := by decide +kernel
theorem dL_law_1876 : decode mL_law.2.1 1876 = .ok (.aload_n 0, 1) := by decide +kernel
theorem dL_law_1877 : decode mL_law.2.1 1877 = .ok (.iload_n 3, 1) := by decide +kernel
theorem dL_law_1878 : decode mL_law.2.1 1878 = .ok (.iconst 5, 1) := by decide +kernel
theorem dL_law_1879 : decode mL_law.2.1 1879 = .ok (.iadd, 1) := by decide +kernel
theorem dL_law_1880 : decode mL_law.2.1 1880 = .ok (.iaload, 1) := by decide +kernel
theorem dL_law_1881 : decode mL_law.2.1 1881 = .ok (.invokevirtual 219, 3) := by decide +kernel
theorem dL_law_1884 : decode mL_law.2.1 1884 = .ok (.if_icmp .eq 5, 3) := by decide +kernel
theorem dL_law_1887 : decode mL_law.2.1 1887 = .ok (.iconst 0, 1) := by decide +kernel
theorem dL_law_1888 : decode mL_law.2.1 1888 = .ok (.ireturn, 1) := by decide +kernel
theorem dL_law_1889 : decode mL_law.2.1 1889 = .ok (.iinc 3 6, 3) := by decide +kernel
theorem dL_law_1892 : decode mL_law.2.1 1892 = .ok (.goto (-1874), 3) := by decide +kernel
theorem dL_law_1895 : decode mL_law.2.1 1895 = .ok (.iconst 1, 1) := by decide +kernel
theorem dL_law_1896 : decode mL_law.2.1 1896 = .ok (.ireturn, 1) := by decide +kernel
