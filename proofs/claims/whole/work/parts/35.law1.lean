set_option maxRecDepth 20000
theorem d_W_216 : decode code 216 = .ok (.aload_n 1, 1) := by decide +kernel
theorem d_W_217 : decode code 217 = .ok (.aload_n 0, 1) := by decide +kernel
theorem d_W_218 : decode code 218 = .ok (.iload 4, 2) := by decide +kernel
theorem d_W_220 : decode code 220 = .ok (.iconst 1, 1) := by decide +kernel
theorem d_W_221 : decode code 221 = .ok (.iadd, 1) := by decide +kernel
theorem d_W_222 : decode code 222 = .ok (.iaload, 1) := by decide +kernel
theorem d_W_223 : decode code 223 = .ok (.aload_n 0, 1) := by decide +kernel
theorem d_W_224 : decode code 224 = .ok (.iload 4, 2) := by decide +kernel
theorem d_W_226 : decode code 226 = .ok (.iconst 2, 1) := by decide +kernel
theorem d_W_227 : decode code 227 = .ok (.iadd, 1) := by decide +kernel
theorem d_W_228 : decode code 228 = .ok (.iaload, 1) := by decide +kernel
theorem d_W_229 : decode code 229 = .ok (.aload_n 0, 1) := by decide +kernel
theorem d_W_230 : decode code 230 = .ok (.iload 4, 2) := by decide +kernel
theorem d_W_232 : decode code 232 = .ok (.iconst 3, 1) := by decide +kernel
theorem d_W_233 : decode code 233 = .ok (.iadd, 1) := by decide +kernel
theorem d_W_234 : decode code 234 = .ok (.iaload, 1) := by decide +kernel
theorem d_W_235 : decode code 235 = .ok (.aload_n 0, 1) := by decide +kernel
theorem d_W_236 : decode code 236 = .ok (.iload 4, 2) := by decide +kernel
theorem d_W_238 : decode code 238 = .ok (.iconst 4, 1) := by decide +kernel
theorem d_W_239 : decode code 239 = .ok (.iadd, 1) := by decide +kernel
theorem d_W_240 : decode code 240 = .ok (.iaload, 1) := by decide +kernel
theorem d_W_241 : decode code 241 = .ok (.aload_n 0, 1) := by decide +kernel
theorem d_W_242 : decode code 242 = .ok (.iload 4, 2) := by decide +kernel
theorem d_W_244 : decode code 244 = .ok (.iconst 5, 1) := by decide +kernel
theorem d_W_245 : decode code 245 = .ok (.iadd, 1) := by decide +kernel
theorem d_W_246 : decode code 246 = .ok (.iaload, 1) := by decide +kernel
theorem lk_W_21 : jLk "CitingLettersLaw" 21 ⟨"CitingLetters", "feed", "(IIIII)I"⟩ := Or.inl (jt_2 202 rfl rfl)
theorem d_W_247 : decode code 247 = .ok (.invokevirtual 21, 3) := by decide +kernel
theorem d_W_250 : decode code 250 = .ok (.aload_n 2, 1) := by decide +kernel
theorem d_W_251 : decode code 251 = .ok (.aload_n 0, 1) := by decide +kernel
theorem d_W_252 : decode code 252 = .ok (.iload 4, 2) := by decide +kernel
theorem d_W_254 : decode code 254 = .ok (.iconst 1, 1) := by decide +kernel
theorem d_W_255 : decode code 255 = .ok (.iadd, 1) := by decide +kernel
theorem d_W_256 : decode code 256 = .ok (.iaload, 1) := by decide +kernel
theorem d_W_257 : decode code 257 = .ok (.aload_n 0, 1) := by decide +kernel
theorem d_W_258 : decode code 258 = .ok (.iload 4, 2) := by decide +kernel
theorem d_W_260 : decode code 260 = .ok (.iconst 2, 1) := by decide +kernel
theorem d_W_261 : decode code 261 = .ok (.iadd, 1) := by decide +kernel
theorem d_W_262 : decode code 262 = .ok (.iaload, 1) := by decide +kernel
theorem d_W_263 : decode code 263 = .ok (.aload_n 0, 1) := by decide +kernel
theorem d_W_264 : decode code 264 = .ok (.iload 4, 2) := by decide +kernel
theorem d_W_266 : decode code 266 = .ok (.iconst 3, 1) := by decide +kernel
theorem d_W_267 : decode code 267 = .ok (.iadd, 1) := by decide +kernel
theorem d_W_268 : decode code 268 = .ok (.iaload, 1) := by decide +kernel
theorem d_W_269 : decode code 269 = .ok (.aload_n 0, 1) := by decide +kernel
theorem d_W_270 : decode code 270 = .ok (.iload 4, 2) := by decide +kernel
theorem d_W_272 : decode code 272 = .ok (.iconst 4, 1) := by decide +kernel
theorem d_W_273 : decode code 273 = .ok (.iadd, 1) := by decide +kernel
theorem d_W_274 : decode code 274 = .ok (.iaload, 1) := by decide +kernel
theorem d_W_275 : decode code 275 = .ok (.aload_n 0, 1) := by decide +kernel
theorem d_W_276 : decode code 276 = .ok (.iload 4, 2) := by decide +kernel
theorem d_W_278 : decode code 278 = .ok (.iconst 5, 1) := by decide +kernel
theorem d_W_279 : decode code 279 = .ok (.iadd, 1) := by decide +kernel
theorem d_W_280 : decode code 280 = .ok (.iaload, 1) := by decide +kernel
theorem lk_W_25 : jLk "CitingLettersLaw" 25 ⟨"CitingLettersModel", "feed", "(IIIII)I"⟩ := Or.inl (jt_7 45 rfl rfl)
theorem d_W_281 : decode code 281 = .ok (.invokevirtual 25, 3) := by decide +kernel
theorem d_W_284 : decode code 284 = .ok (.if_icmp .eq (1443), 3) := by decide +kernel
theorem d_W_289 : decode code 289 = .ok (.aload_n 1, 1) := by decide +kernel
theorem d_W_290 : decode code 290 = .ok (.aload_n 0, 1) := by decide +kernel
theorem d_W_291 : decode code 291 = .ok (.iload 4, 2) := by decide +kernel
theorem d_W_293 : decode code 293 = .ok (.iconst 1, 1) := by decide +kernel
theorem d_W_294 : decode code 294 = .ok (.iadd, 1) := by decide +kernel
theorem d_W_295 : decode code 295 = .ok (.iaload, 1) := by decide +kernel
theorem lk_W_26 : jLk "CitingLettersLaw" 26 ⟨"CitingLetters", "text", "(I)I"⟩ := Or.inl (jt_2 210 rfl rfl)
theorem d_W_296 : decode code 296 = .ok (.invokevirtual 26, 3) := by decide +kernel
theorem d_W_299 : decode code 299 = .ok (.aload_n 2, 1) := by decide +kernel
theorem d_W_300 : decode code 300 = .ok (.aload_n 0, 1) := by decide +kernel
theorem d_W_301 : decode code 301 = .ok (.iload 4, 2) := by decide +kernel
theorem d_W_303 : decode code 303 = .ok (.iconst 1, 1) := by decide +kernel
theorem d_W_304 : decode code 304 = .ok (.iadd, 1) := by decide +kernel
theorem d_W_305 : decode code 305 = .ok (.iaload, 1) := by decide +kernel
theorem lk_W_30 : jLk "CitingLettersLaw" 30 ⟨"CitingLettersModel", "text", "(I)I"⟩ := Or.inl (jt_7 49 rfl rfl)
theorem d_W_306 : decode code 306 = .ok (.invokevirtual 30, 3) := by decide +kernel
theorem d_W_309 : decode code 309 = .ok (.if_icmp .eq (1418), 3) := by decide +kernel
theorem d_W_314 : decode code 314 = .ok (.aload_n 1, 1) := by decide +kernel
theorem d_W_315 : decode code 315 = .ok (.aload_n 0, 1) := by decide +kernel
theorem d_W_316 : decode code 316 = .ok (.iload 4, 2) := by decide +kernel
theorem d_W_318 : decode code 318 = .ok (.iconst 1, 1) := by decide +kernel
theorem d_W_319 : decode code 319 = .ok (.iadd, 1) := by decide +kernel
theorem d_W_320 : decode code 320 = .ok (.iaload, 1) := by decide +kernel
theorem lk_W_31 : jLk "CitingLettersLaw" 31 ⟨"CitingLetters", "fault", "(I)I"⟩ := Or.inl (jt_3 168 rfl rfl)
theorem d_W_321 : decode code 321 = .ok (.invokevirtual 31, 3) := by decide +kernel
theorem d_W_324 : decode code 324 = .ok (.aload_n 2, 1) := by decide +kernel
theorem d_W_325 : decode code 325 = .ok (.aload_n 0, 1) := by decide +kernel
theorem d_W_326 : decode code 326 = .ok (.iload 4, 2) := by decide +kernel
theorem d_W_328 : decode code 328 = .ok (.iconst 1, 1) := by decide +kernel
theorem d_W_329 : decode code 329 = .ok (.iadd, 1) := by decide +kernel
theorem d_W_330 : decode code 330 = .ok (.iaload, 1) := by decide +kernel
theorem lk_W_34 : jLk "CitingLettersLaw" 34 ⟨"CitingLettersModel", "fault", "(I)I"⟩ := Or.inl (jt_7 133 rfl rfl)
theorem d_W_331 : decode code 331 = .ok (.invokevirtual 34, 3) := by decide +kernel
theorem d_W_334 : decode code 334 = .ok (.if_icmp .eq (1393), 3) := by decide +kernel
theorem d_W_339 : decode code 339 = .ok (.aload_n 1, 1) := by decide +kernel
theorem d_W_340 : decode code 340 = .ok (.aload_n 0, 1) := by decide +kernel
theorem d_W_341 : decode code 341 = .ok (.iload 4, 2) := by decide +kernel
theorem d_W_343 : decode code 343 = .ok (.iconst 1, 1) := by decide +kernel
theorem d_W_344 : decode code 344 = .ok (.iadd, 1) := by decide +kernel
theorem d_W_345 : decode code 345 = .ok (.iaload, 1) := by decide +kernel
theorem d_W_346 : decode code 346 = .ok (.aload_n 0, 1) := by decide +kernel
theorem d_W_347 : decode code 347 = .ok (.iload 4, 2) := by decide +kernel
theorem d_W_349 : decode code 349 = .ok (.iconst 2, 1) := by decide +kernel
theorem d_W_350 : decode code 350 = .ok (.iadd, 1) := by decide +kernel
theorem d_W_351 : decode code 351 = .ok (.iaload, 1) := by decide +kernel
theorem d_W_352 : decode code 352 = .ok (.aload_n 0, 1) := by decide +kernel
theorem d_W_353 : decode code 353 = .ok (.iload 4, 2) := by decide +kernel
theorem d_W_355 : decode code 355 = .ok (.iconst 3, 1) := by decide +kernel
theorem d_W_356 : decode code 356 = .ok (.iadd, 1) := by decide +kernel
theorem d_W_357 : decode code 357 = .ok (.iaload, 1) := by decide +kernel
theorem lk_W_35 : jLk "CitingLettersLaw" 35 ⟨"CitingLetters", "way", "(III)Z"⟩ := Or.inl (jt_3 172 rfl rfl)
theorem d_W_358 : decode code 358 = .ok (.invokevirtual 35, 3) := by decide +kernel
theorem d_W_361 : decode code 361 = .ok (.aload_n 2, 1) := by decide +kernel
theorem d_W_362 : decode code 362 = .ok (.aload_n 0, 1) := by decide +kernel
theorem d_W_363 : decode code 363 = .ok (.iload 4, 2) := by decide +kernel
theorem d_W_365 : decode code 365 = .ok (.iconst 1, 1) := by decide +kernel
theorem d_W_366 : decode code 366 = .ok (.iadd, 1) := by decide +kernel
theorem d_W_367 : decode code 367 = .ok (.iaload, 1) := by decide +kernel
theorem d_W_368 : decode code 368 = .ok (.aload_n 0, 1) := by decide +kernel
theorem d_W_369 : decode code 369 = .ok (.iload 4, 2) := by decide +kernel
theorem d_W_371 : decode code 371 = .ok (.iconst 2, 1) := by decide +kernel
theorem d_W_372 : decode code 372 = .ok (.iadd, 1) := by decide +kernel
theorem d_W_373 : decode code 373 = .ok (.iaload, 1) := by decide +kernel
theorem d_W_374 : decode code 374 = .ok (.aload_n 0, 1) := by decide +kernel
theorem d_W_375 : decode code 375 = .ok (.iload 4, 2) := by decide +kernel
theorem d_W_377 : decode code 377 = .ok (.iconst 3, 1) := by decide +kernel
theorem d_W_378 : decode code 378 = .ok (.iadd, 1) := by decide +kernel
theorem d_W_379 : decode code 379 = .ok (.iaload, 1) := by decide +kernel
theorem lk_W_39 : jLk "CitingLettersLaw" 39 ⟨"CitingLettersModel", "way", "(III)Z"⟩ := Or.inl (jt_7 137 rfl rfl)
theorem d_W_380 : decode code 380 = .ok (.invokevirtual 39, 3) := by decide +kernel
theorem d_W_383 : decode code 383 = .ok (.if_icmp .eq (1344), 3) := by decide +kernel
theorem d_W_388 : decode code 388 = .ok (.aload_n 1, 1) := by decide +kernel
theorem d_W_389 : decode code 389 = .ok (.aload_n 0, 1) := by decide +kernel
theorem d_W_390 : decode code 390 = .ok (.iload 4, 2) := by decide +kernel
theorem d_W_392 : decode code 392 = .ok (.iconst 1, 1) := by decide +kernel
theorem d_W_393 : decode code 393 = .ok (.iadd, 1) := by decide +kernel
theorem d_W_394 : decode code 394 = .ok (.iaload, 1) := by decide +kernel
theorem d_W_395 : decode code 395 = .ok (.aload_n 0, 1) := by decide +kernel
theorem d_W_396 : decode code 396 = .ok (.iload 4, 2) := by decide +kernel
theorem d_W_398 : decode code 398 = .ok (.iconst 2, 1) := by decide +kernel
theorem d_W_399 : decode code 399 = .ok (.iadd, 1) := by decide +kernel
theorem d_W_400 : decode code 400 = .ok (.iaload, 1) := by decide +kernel
theorem d_W_401 : decode code 401 = .ok (.aload_n 0, 1) := by decide +kernel
theorem d_W_402 : decode code 402 = .ok (.iload 4, 2) := by decide +kernel
theorem d_W_404 : decode code 404 = .ok (.iconst 3, 1) := by decide +kernel
theorem d_W_405 : decode code 405 = .ok (.iadd, 1) := by decide +kernel
theorem d_W_406 : decode code 406 = .ok (.iaload, 1) := by decide +kernel
theorem d_W_407 : decode code 407 = .ok (.aload_n 0, 1) := by decide +kernel
theorem d_W_408 : decode code 408 = .ok (.iload 4, 2) := by decide +kernel
theorem d_W_410 : decode code 410 = .ok (.iconst 4, 1) := by decide +kernel
theorem d_W_411 : decode code 411 = .ok (.iadd, 1) := by decide +kernel
theorem d_W_412 : decode code 412 = .ok (.iaload, 1) := by decide +kernel
theorem d_W_413 : decode code 413 = .ok (.aload_n 0, 1) := by decide +kernel
theorem d_W_414 : decode code 414 = .ok (.iload 4, 2) := by decide +kernel
theorem d_W_416 : decode code 416 = .ok (.iconst 5, 1) := by decide +kernel
theorem d_W_417 : decode code 417 = .ok (.iadd, 1) := by decide +kernel
theorem d_W_418 : decode code 418 = .ok (.iaload, 1) := by decide +kernel
theorem lk_W_40 : jLk "CitingLettersLaw" 40 ⟨"CitingLetters", "write", "(IIIII)I"⟩ := Or.inl (jt_3 191 rfl rfl)
theorem d_W_419 : decode code 419 = .ok (.invokevirtual 40, 3) := by decide +kernel
theorem d_W_422 : decode code 422 = .ok (.aload_n 2, 1) := by decide +kernel
theorem d_W_423 : decode code 423 = .ok (.aload_n 0, 1) := by decide +kernel
theorem d_W_424 : decode code 424 = .ok (.iload 4, 2) := by decide +kernel
theorem d_W_426 : decode code 426 = .ok (.iconst 1, 1) := by decide +kernel
theorem d_W_427 : decode code 427 = .ok (.iadd, 1) := by decide +kernel
theorem d_W_428 : decode code 428 = .ok (.iaload, 1) := by decide +kernel
theorem d_W_429 : decode code 429 = .ok (.aload_n 0, 1) := by decide +kernel
theorem d_W_430 : decode code 430 = .ok (.iload 4, 2) := by decide +kernel
theorem d_W_432 : decode code 432 = .ok (.iconst 2, 1) := by decide +kernel
theorem d_W_433 : decode code 433 = .ok (.iadd, 1) := by decide +kernel
theorem d_W_434 : decode code 434 = .ok (.iaload, 1) := by decide +kernel
theorem d_W_435 : decode code 435 = .ok (.aload_n 0, 1) := by decide +kernel
theorem d_W_436 : decode code 436 = .ok (.iload 4, 2) := by decide +kernel
theorem d_W_438 : decode code 438 = .ok (.iconst 3, 1) := by decide +kernel
theorem d_W_439 : decode code 439 = .ok (.iadd, 1) := by decide +kernel
theorem d_W_440 : decode code 440 = .ok (.iaload, 1) := by decide +kernel
theorem d_W_441 : decode code 441 = .ok (.aload_n 0, 1) := by decide +kernel
theorem d_W_442 : decode code 442 = .ok (.iload 4, 2) := by decide +kernel
theorem d_W_444 : decode code 444 = .ok (.iconst 4, 1) := by decide +kernel
theorem d_W_445 : decode code 445 = .ok (.iadd, 1) := by decide +kernel
theorem d_W_446 : decode code 446 = .ok (.iaload, 1) := by decide +kernel
theorem d_W_447 : decode code 447 = .ok (.aload_n 0, 1) := by decide +kernel
theorem d_W_448 : decode code 448 = .ok (.iload 4, 2) := by decide +kernel
theorem d_W_450 : decode code 450 = .ok (.iconst 5, 1) := by decide +kernel
theorem d_W_451 : decode code 451 = .ok (.iadd, 1) := by decide +kernel
theorem d_W_452 : decode code 452 = .ok (.iaload, 1) := by decide +kernel
theorem lk_W_43 : jLk "CitingLettersLaw" 43 ⟨"CitingLettersModel", "write", "(IIIII)I"⟩ := Or.inl (jt_7 144 rfl rfl)
theorem d_W_453 : decode code 453 = .ok (.invokevirtual 43, 3) := by decide +kernel
theorem d_W_456 : decode code 456 = .ok (.if_icmp .eq (1271), 3) := by decide +kernel
theorem d_W_461 : decode code 461 = .ok (.aload_n 1, 1) := by decide +kernel
theorem d_W_462 : decode code 462 = .ok (.aload_n 0, 1) := by decide +kernel
theorem d_W_463 : decode code 463 = .ok (.iload 4, 2) := by decide +kernel
theorem d_W_465 : decode code 465 = .ok (.iconst 1, 1) := by decide +kernel
theorem d_W_466 : decode code 466 = .ok (.iadd, 1) := by decide +kernel
theorem d_W_467 : decode code 467 = .ok (.iaload, 1) := by decide +kernel
theorem d_W_468 : decode code 468 = .ok (.aload_n 0, 1) := by decide +kernel
theorem d_W_469 : decode code 469 = .ok (.iload 4, 2) := by decide +kernel
theorem d_W_471 : decode code 471 = .ok (.iconst 2, 1) := by decide +kernel
theorem d_W_472 : decode code 472 = .ok (.iadd, 1) := by decide +kernel
theorem d_W_473 : decode code 473 = .ok (.iaload, 1) := by decide +kernel
theorem lk_W_44 : jLk "CitingLettersLaw" 44 ⟨"CitingLetters", "late", "(II)I"⟩ := Or.inl (jt_4 4 rfl rfl)
theorem d_W_474 : decode code 474 = .ok (.invokevirtual 44, 3) := by decide +kernel
theorem d_W_477 : decode code 477 = .ok (.aload_n 2, 1) := by decide +kernel
theorem d_W_478 : decode code 478 = .ok (.aload_n 0, 1) := by decide +kernel
theorem d_W_479 : decode code 479 = .ok (.iload 4, 2) := by decide +kernel
theorem d_W_481 : decode code 481 = .ok (.iconst 1, 1) := by decide +kernel
theorem d_W_482 : decode code 482 = .ok (.iadd, 1) := by decide +kernel
theorem d_W_483 : decode code 483 = .ok (.iaload, 1) := by decide +kernel
theorem d_W_484 : decode code 484 = .ok (.aload_n 0, 1) := by decide +kernel
theorem d_W_485 : decode code 485 = .ok (.iload 4, 2) := by decide +kernel
theorem d_W_487 : decode code 487 = .ok (.iconst 2, 1) := by decide +kernel
theorem d_W_488 : decode code 488 = .ok (.iadd, 1) := by decide +kernel
theorem d_W_489 : decode code 489 = .ok (.iaload, 1) := by decide +kernel
theorem lk_W_47 : jLk "CitingLettersLaw" 47 ⟨"CitingLettersModel", "late", "(II)I"⟩ := Or.inl (jt_7 175 rfl rfl)
theorem d_W_490 : decode code 490 = .ok (.invokevirtual 47, 3) := by decide +kernel
theorem d_W_493 : decode code 493 = .ok (.if_icmp .eq (1234), 3) := by decide +kernel
theorem d_W_498 : decode code 498 = .ok (.aload_n 1, 1) := by decide +kernel
theorem d_W_499 : decode code 499 = .ok (.aload_n 0, 1) := by decide +kernel
theorem d_W_500 : decode code 500 = .ok (.iload 4, 2) := by decide +kernel
theorem d_W_502 : decode code 502 = .ok (.iconst 1, 1) := by decide +kernel
theorem d_W_503 : decode code 503 = .ok (.iadd, 1) := by decide +kernel
theorem d_W_504 : decode code 504 = .ok (.iaload, 1) := by decide +kernel
theorem lk_W_48 : jLk "CitingLettersLaw" 48 ⟨"CitingLetters", "lose", "(I)Z"⟩ := Or.inl (jt_4 20 rfl rfl)
theorem d_W_505 : decode code 505 = .ok (.invokevirtual 48, 3) := by decide +kernel
theorem d_W_508 : decode code 508 = .ok (.aload_n 2, 1) := by decide +kernel
theorem d_W_509 : decode code 509 = .ok (.aload_n 0, 1) := by decide +kernel
theorem d_W_510 : decode code 510 = .ok (.iload 4, 2) := by decide +kernel
theorem d_W_512 : decode code 512 = .ok (.iconst 1, 1) := by decide +kernel
theorem d_W_513 : decode code 513 = .ok (.iadd, 1) := by decide +kernel
theorem d_W_514 : decode code 514 = .ok (.iaload, 1) := by decide +kernel
theorem lk_W_52 : jLk "CitingLettersLaw" 52 ⟨"CitingLettersModel", "lose", "(I)Z"⟩ := Or.inl (jt_7 183 rfl rfl)
theorem d_W_515 : decode code 515 = .ok (.invokevirtual 52, 3) := by decide +kernel
theorem d_W_518 : decode code 518 = .ok (.if_icmp .eq (1209), 3) := by decide +kernel
theorem d_W_523 : decode code 523 = .ok (.aload_n 1, 1) := by decide +kernel
theorem d_W_524 : decode code 524 = .ok (.aload_n 0, 1) := by decide +kernel
theorem d_W_525 : decode code 525 = .ok (.iload 4, 2) := by decide +kernel
theorem d_W_527 : decode code 527 = .ok (.iconst 1, 1) := by decide +kernel
theorem d_W_528 : decode code 528 = .ok (.iadd, 1) := by decide +kernel
theorem d_W_529 : decode code 529 = .ok (.iaload, 1) := by decide +kernel
theorem d_W_530 : decode code 530 = .ok (.aload_n 0, 1) := by decide +kernel
theorem d_W_531 : decode code 531 = .ok (.iload 4, 2) := by decide +kernel
theorem d_W_533 : decode code 533 = .ok (.iconst 2, 1) := by decide +kernel
theorem d_W_534 : decode code 534 = .ok (.iadd, 1) := by decide +kernel
theorem d_W_535 : decode code 535 = .ok (.iaload, 1) := by decide +kernel
theorem d_W_536 : decode code 536 = .ok (.aload_n 0, 1) := by decide +kernel
theorem d_W_537 : decode code 537 = .ok (.iload 4, 2) := by decide +kernel
theorem d_W_539 : decode code 539 = .ok (.iconst 3, 1) := by decide +kernel
theorem d_W_540 : decode code 540 = .ok (.iadd, 1) := by decide +kernel
theorem d_W_541 : decode code 541 = .ok (.iaload, 1) := by decide +kernel
theorem lk_W_53 : jLk "CitingLettersLaw" 53 ⟨"CitingLetters", "again", "(III)I"⟩ := Or.inl (jt_4 24 rfl rfl)
theorem d_W_542 : decode code 542 = .ok (.invokevirtual 53, 3) := by decide +kernel
theorem d_W_545 : decode code 545 = .ok (.aload_n 2, 1) := by decide +kernel
theorem d_W_546 : decode code 546 = .ok (.aload_n 0, 1) := by decide +kernel
theorem d_W_547 : decode code 547 = .ok (.iload 4, 2) := by decide +kernel
theorem d_W_549 : decode code 549 = .ok (.iconst 1, 1) := by decide +kernel
theorem d_W_550 : decode code 550 = .ok (.iadd, 1) := by decide +kernel
theorem d_W_551 : decode code 551 = .ok (.iaload, 1) := by decide +kernel
theorem d_W_552 : decode code 552 = .ok (.aload_n 0, 1) := by decide +kernel
theorem d_W_553 : decode code 553 = .ok (.iload 4, 2) := by decide +kernel
theorem d_W_555 : decode code 555 = .ok (.iconst 2, 1) := by decide +kernel
theorem d_W_556 : decode code 556 = .ok (.iadd, 1) := by decide +kernel
theorem d_W_557 : decode code 557 = .ok (.iaload, 1) := by decide +kernel
theorem d_W_558 : decode code 558 = .ok (.aload_n 0, 1) := by decide +kernel
theorem d_W_559 : decode code 559 = .ok (.iload 4, 2) := by decide +kernel
theorem d_W_561 : decode code 561 = .ok (.iconst 3, 1) := by decide +kernel
theorem d_W_562 : decode code 562 = .ok (.iadd, 1) := by decide +kernel
theorem d_W_563 : decode code 563 = .ok (.iaload, 1) := by decide +kernel
theorem lk_W_57 : jLk "CitingLettersLaw" 57 ⟨"CitingLettersModel", "again", "(III)I"⟩ := Or.inl (jt_7 187 rfl rfl)
theorem d_W_564 : decode code 564 = .ok (.invokevirtual 57, 3) := by decide +kernel
theorem d_W_567 : decode code 567 = .ok (.if_icmp .eq (1160), 3) := by decide +kernel
theorem d_W_572 : decode code 572 = .ok (.aload_n 1, 1) := by decide +kernel
theorem d_W_573 : decode code 573 = .ok (.aload_n 0, 1) := by decide +kernel
theorem d_W_574 : decode code 574 = .ok (.iload 4, 2) := by decide +kernel
theorem d_W_576 : decode code 576 = .ok (.iconst 1, 1) := by decide +kernel
theorem d_W_577 : decode code 577 = .ok (.iadd, 1) := by decide +kernel
theorem d_W_578 : decode code 578 = .ok (.iaload, 1) := by decide +kernel
theorem d_W_579 : decode code 579 = .ok (.aload_n 0, 1) := by decide +kernel
theorem d_W_580 : decode code 580 = .ok (.iload 4, 2) := by decide +kernel
theorem d_W_582 : decode code 582 = .ok (.iconst 2, 1) := by decide +kernel
theorem d_W_583 : decode code 583 = .ok (.iadd, 1) := by decide +kernel
theorem d_W_584 : decode code 584 = .ok (.iaload, 1) := by decide +kernel
theorem d_W_585 : decode code 585 = .ok (.aload_n 0, 1) := by decide +kernel
theorem d_W_586 : decode code 586 = .ok (.iload 4, 2) := by decide +kernel
theorem d_W_588 : decode code 588 = .ok (.iconst 3, 1) := by decide +kernel
theorem d_W_589 : decode code 589 = .ok (.iadd, 1) := by decide +kernel
theorem d_W_590 : decode code 590 = .ok (.iaload, 1) := by decide +kernel
theorem lk_W_58 : jLk "CitingLettersLaw" 58 ⟨"CitingLetters", "split", "(III)Z"⟩ := Or.inl (jt_4 32 rfl rfl)
theorem d_W_591 : decode code 591 = .ok (.invokevirtual 58, 3) := by decide +kernel
theorem d_W_594 : decode code 594 = .ok (.aload_n 2, 1) := by decide +kernel
theorem d_W_595 : decode code 595 = .ok (.aload_n 0, 1) := by decide +kernel
theorem d_W_596 : decode code 596 = .ok (.iload 4, 2) := by decide +kernel
theorem d_W_598 : decode code 598 = .ok (.iconst 1, 1) := by decide +kernel
theorem d_W_599 : decode code 599 = .ok (.iadd, 1) := by decide +kernel
theorem d_W_600 : decode code 600 = .ok (.iaload, 1) := by decide +kernel
theorem d_W_601 : decode code 601 = .ok (.aload_n 0, 1) := by decide +kernel
theorem d_W_602 : decode code 602 = .ok (.iload 4, 2) := by decide +kernel
theorem d_W_604 : decode code 604 = .ok (.iconst 2, 1) := by decide +kernel
theorem d_W_605 : decode code 605 = .ok (.iadd, 1) := by decide +kernel
theorem d_W_606 : decode code 606 = .ok (.iaload, 1) := by decide +kernel
theorem d_W_607 : decode code 607 = .ok (.aload_n 0, 1) := by decide +kernel
theorem d_W_608 : decode code 608 = .ok (.iload 4, 2) := by decide +kernel
theorem d_W_610 : decode code 610 = .ok (.iconst 3, 1) := by decide +kernel
theorem d_W_611 : decode code 611 = .ok (.iadd, 1) := by decide +kernel
theorem d_W_612 : decode code 612 = .ok (.iaload, 1) := by decide +kernel
theorem lk_W_61 : jLk "CitingLettersLaw" 61 ⟨"CitingLettersModel", "split", "(III)Z"⟩ := Or.inl (jt_7 191 rfl rfl)
theorem d_W_613 : decode code 613 = .ok (.invokevirtual 61, 3) := by decide +kernel
theorem d_W_616 : decode code 616 = .ok (.if_icmp .eq (1111), 3) := by decide +kernel
theorem d_W_621 : decode code 621 = .ok (.aload_n 1, 1) := by decide +kernel
theorem d_W_622 : decode code 622 = .ok (.aload_n 0, 1) := by decide +kernel
theorem d_W_623 : decode code 623 = .ok (.iload 4, 2) := by decide +kernel
theorem d_W_625 : decode code 625 = .ok (.iconst 1, 1) := by decide +kernel
theorem d_W_626 : decode code 626 = .ok (.iadd, 1) := by decide +kernel
theorem d_W_627 : decode code 627 = .ok (.iaload, 1) := by decide +kernel
theorem lk_W_62 : jLk "CitingLettersLaw" 62 ⟨"CitingLetters", "days", "(I)I"⟩ := Or.inl (jt_4 40 rfl rfl)
theorem d_W_628 : decode code 628 = .ok (.invokevirtual 62, 3) := by decide +kernel
theorem d_W_631 : decode code 631 = .ok (.aload_n 2, 1) := by decide +kernel
theorem d_W_632 : decode code 632 = .ok (.aload_n 0, 1) := by decide +kernel
theorem d_W_633 : decode code 633 = .ok (.iload 4, 2) := by decide +kernel
theorem d_W_635 : decode code 635 = .ok (.iconst 1, 1) := by decide +kernel
theorem d_W_636 : decode code 636 = .ok (.iadd, 1) := by decide +kernel
theorem d_W_637 : decode code 637 = .ok (.iaload, 1) := by decide +kernel
theorem lk_W_65 : jLk "CitingLettersLaw" 65 ⟨"CitingLettersModel", "days", "(I)I"⟩ := Or.inl (jt_7 195 rfl rfl)
theorem d_W_638 : decode code 638 = .ok (.invokevirtual 65, 3) := by decide +kernel
theorem d_W_641 : decode code 641 = .ok (.if_icmp .eq (1086), 3) := by decide +kernel
theorem d_W_646 : decode code 646 = .ok (.aload_n 1, 1) := by decide +kernel
theorem d_W_647 : decode code 647 = .ok (.aload_n 0, 1) := by decide +kernel
theorem d_W_648 : decode code 648 = .ok (.iload 4, 2) := by decide +kernel
theorem d_W_650 : decode code 650 = .ok (.iconst 1, 1) := by decide +kernel
theorem d_W_651 : decode code 651 = .ok (.iadd, 1) := by decide +kernel
theorem d_W_652 : decode code 652 = .ok (.iaload, 1) := by decide +kernel
theorem d_W_653 : decode code 653 = .ok (.aload_n 0, 1) := by decide +kernel
theorem d_W_654 : decode code 654 = .ok (.iload 4, 2) := by decide +kernel
theorem d_W_656 : decode code 656 = .ok (.iconst 2, 1) := by decide +kernel
theorem d_W_657 : decode code 657 = .ok (.iadd, 1) := by decide +kernel
theorem d_W_658 : decode code 658 = .ok (.iaload, 1) := by decide +kernel
theorem lk_W_66 : jLk "CitingLettersLaw" 66 ⟨"CitingLetters", "read", "(II)I"⟩ := Or.inl (jt_4 132 rfl rfl)
theorem d_W_659 : decode code 659 = .ok (.invokevirtual 66, 3) := by decide +kernel
theorem d_W_662 : decode code 662 = .ok (.aload_n 2, 1) := by decide +kernel
theorem d_W_663 : decode code 663 = .ok (.aload_n 0, 1) := by decide +kernel
theorem d_W_664 : decode code 664 = .ok (.iload 4, 2) := by decide +kernel
theorem d_W_666 : decode code 666 = .ok (.iconst 1, 1) := by decide +kernel
theorem d_W_667 : decode code 667 = .ok (.iadd, 1) := by decide +kernel
theorem d_W_668 : decode code 668 = .ok (.iaload, 1) := by decide +kernel
theorem d_W_669 : decode code 669 = .ok (.aload_n 0, 1) := by decide +kernel
theorem d_W_670 : decode code 670 = .ok (.iload 4, 2) := by decide +kernel
theorem d_W_672 : decode code 672 = .ok (.iconst 2, 1) := by decide +kernel
theorem d_W_673 : decode code 673 = .ok (.iadd, 1) := by decide +kernel
theorem d_W_674 : decode code 674 = .ok (.iaload, 1) := by decide +kernel
theorem lk_W_69 : jLk "CitingLettersLaw" 69 ⟨"CitingLettersModel", "read", "(II)I"⟩ := Or.inl (jt_7 239 rfl rfl)
theorem d_W_675 : decode code 675 = .ok (.invokevirtual 69, 3) := by decide +kernel
theorem d_W_678 : decode code 678 = .ok (.if_icmp .eq (1049), 3) := by decide +kernel
theorem d_W_751 : decode code 751 = .ok (.aload_n 1, 1) := by decide +kernel
theorem d_W_752 : decode code 752 = .ok (.aload_n 0, 1) := by decide +kernel
theorem d_W_753 : decode code 753 = .ok (.iload 4, 2) := by decide +kernel
theorem d_W_755 : decode code 755 = .ok (.iconst 1, 1) := by decide +kernel
theorem d_W_756 : decode code 756 = .ok (.iadd, 1) := by decide +kernel
theorem d_W_757 : decode code 757 = .ok (.iaload, 1) := by decide +kernel
theorem d_W_758 : decode code 758 = .ok (.aload_n 0, 1) := by decide +kernel
theorem d_W_759 : decode code 759 = .ok (.iload 4, 2) := by decide +kernel
theorem d_W_761 : decode code 761 = .ok (.iconst 2, 1) := by decide +kernel
theorem d_W_762 : decode code 762 = .ok (.iadd, 1) := by decide +kernel
theorem d_W_763 : decode code 763 = .ok (.iaload, 1) := by decide +kernel
theorem lk_W_80 : jLk "CitingLettersLaw" 80 ⟨"CitingLetters", "copy", "(II)I"⟩ := Or.inl (jt_4 136 rfl rfl)
theorem d_W_764 : decode code 764 = .ok (.invokevirtual 80, 3) := by decide +kernel
theorem d_W_767 : decode code 767 = .ok (.aload_n 2, 1) := by decide +kernel
theorem d_W_768 : decode code 768 = .ok (.aload_n 0, 1) := by decide +kernel
theorem d_W_769 : decode code 769 = .ok (.iload 4, 2) := by decide +kernel
theorem d_W_771 : decode code 771 = .ok (.iconst 1, 1) := by decide +kernel
theorem d_W_772 : decode code 772 = .ok (.iadd, 1) := by decide +kernel
theorem d_W_773 : decode code 773 = .ok (.iaload, 1) := by decide +kernel
theorem d_W_774 : decode code 774 = .ok (.aload_n 0, 1) := by decide +kernel
theorem d_W_775 : decode code 775 = .ok (.iload 4, 2) := by decide +kernel
theorem d_W_777 : decode code 777 = .ok (.iconst 2, 1) := by decide +kernel
theorem d_W_778 : decode code 778 = .ok (.iadd, 1) := by decide +kernel
theorem d_W_779 : decode code 779 = .ok (.iaload, 1) := by decide +kernel
theorem lk_W_83 : jLk "CitingLettersLaw" 83 ⟨"CitingLettersModel", "copy", "(II)I"⟩ := Or.inl (jt_8 7 rfl rfl)
theorem d_W_780 : decode code 780 = .ok (.invokevirtual 83, 3) := by decide +kernel
theorem d_W_783 : decode code 783 = .ok (.if_icmp .eq (944), 3) := by decide +kernel
theorem d_W_788 : decode code 788 = .ok (.aload_n 1, 1) := by decide +kernel
theorem d_W_789 : decode code 789 = .ok (.aload_n 0, 1) := by decide +kernel
theorem d_W_790 : decode code 790 = .ok (.iload 4, 2) := by decide +kernel
theorem d_W_792 : decode code 792 = .ok (.iconst 1, 1) := by decide +kernel
theorem d_W_793 : decode code 793 = .ok (.iadd, 1) := by decide +kernel
theorem d_W_794 : decode code 794 = .ok (.iaload, 1) := by decide +kernel
theorem d_W_795 : decode code 795 = .ok (.aload_n 0, 1) := by decide +kernel
theorem d_W_796 : decode code 796 = .ok (.iload 4, 2) := by decide +kernel
theorem d_W_798 : decode code 798 = .ok (.iconst 2, 1) := by decide +kernel
theorem d_W_799 : decode code 799 = .ok (.iadd, 1) := by decide +kernel
theorem d_W_800 : decode code 800 = .ok (.iaload, 1) := by decide +kernel
theorem lk_W_84 : jLk "CitingLettersLaw" 84 ⟨"CitingLetters", "desk", "(II)I"⟩ := Or.inl (jt_4 141 rfl rfl)
theorem d_W_801 : decode code 801 = .ok (.invokevirtual 84, 3) := by decide +kernel
theorem d_W_804 : decode code 804 = .ok (.aload_n 2, 1) := by decide +kernel
theorem d_W_805 : decode code 805 = .ok (.aload_n 0, 1) := by decide +kernel
theorem d_W_806 : decode code 806 = .ok (.iload 4, 2) := by decide +kernel
theorem d_W_808 : decode code 808 = .ok (.iconst 1, 1) := by decide +kernel
theorem d_W_809 : decode code 809 = .ok (.iadd, 1) := by decide +kernel
theorem d_W_810 : decode code 810 = .ok (.iaload, 1) := by decide +kernel
theorem d_W_811 : decode code 811 = .ok (.aload_n 0, 1) := by decide +kernel
theorem d_W_812 : decode code 812 = .ok (.iload 4, 2) := by decide +kernel
theorem d_W_814 : decode code 814 = .ok (.iconst 2, 1) := by decide +kernel
theorem d_W_815 : decode code 815 = .ok (.iadd, 1) := by decide +kernel
theorem d_W_816 : decode code 816 = .ok (.iaload, 1) := by decide +kernel
theorem lk_W_87 : jLk "CitingLettersLaw" 87 ⟨"CitingLettersModel", "desk", "(II)I"⟩ := Or.inl (jt_8 11 rfl rfl)
theorem d_W_817 : decode code 817 = .ok (.invokevirtual 87, 3) := by decide +kernel
theorem d_W_820 : decode code 820 = .ok (.if_icmp .eq (907), 3) := by decide +kernel
theorem d_W_825 : decode code 825 = .ok (.aload_n 1, 1) := by decide +kernel
theorem d_W_826 : decode code 826 = .ok (.aload_n 0, 1) := by decide +kernel
theorem d_W_827 : decode code 827 = .ok (.iload 4, 2) := by decide +kernel
theorem d_W_829 : decode code 829 = .ok (.iconst 1, 1) := by decide +kernel
theorem d_W_830 : decode code 830 = .ok (.iadd, 1) := by decide +kernel
theorem d_W_831 : decode code 831 = .ok (.iaload, 1) := by decide +kernel
theorem d_W_832 : decode code 832 = .ok (.aload_n 0, 1) := by decide +kernel
theorem d_W_833 : decode code 833 = .ok (.iload 4, 2) := by decide +kernel
theorem d_W_835 : decode code 835 = .ok (.iconst 2, 1) := by decide +kernel
theorem d_W_836 : decode code 836 = .ok (.iadd, 1) := by decide +kernel
theorem d_W_837 : decode code 837 = .ok (.iaload, 1) := by decide +kernel
theorem lk_W_88 : jLk "CitingLettersLaw" 88 ⟨"CitingLetters", "before", "(II)I"⟩ := Or.inl (jt_4 145 rfl rfl)
theorem d_W_838 : decode code 838 = .ok (.invokevirtual 88, 3) := by decide +kernel
theorem d_W_841 : decode code 841 = .ok (.aload_n 2, 1) := by decide +kernel
theorem d_W_842 : decode code 842 = .ok (.aload_n 0, 1) := by decide +kernel
theorem d_W_843 : decode code 843 = .ok (.iload 4, 2) := by decide +kernel
theorem d_W_845 : decode code 845 = .ok (.iconst 1, 1) := by decide +kernel
theorem d_W_846 : decode code 846 = .ok (.iadd, 1) := by decide +kernel
theorem d_W_847 : decode code 847 = .ok (.iaload, 1) := by decide +kernel
theorem d_W_848 : decode code 848 = .ok (.aload_n 0, 1) := by decide +kernel
theorem d_W_849 : decode code 849 = .ok (.iload 4, 2) := by decide +kernel
theorem d_W_851 : decode code 851 = .ok (.iconst 2, 1) := by decide +kernel
theorem d_W_852 : decode code 852 = .ok (.iadd, 1) := by decide +kernel
theorem d_W_853 : decode code 853 = .ok (.iaload, 1) := by decide +kernel
theorem lk_W_91 : jLk "CitingLettersLaw" 91 ⟨"CitingLettersModel", "before", "(II)I"⟩ := Or.inl (jt_8 15 rfl rfl)
theorem d_W_854 : decode code 854 = .ok (.invokevirtual 91, 3) := by decide +kernel
theorem d_W_857 : decode code 857 = .ok (.if_icmp .eq (870), 3) := by decide +kernel
theorem d_W_862 : decode code 862 = .ok (.aload_n 1, 1) := by decide +kernel
theorem d_W_863 : decode code 863 = .ok (.aload_n 0, 1) := by decide +kernel
theorem d_W_864 : decode code 864 = .ok (.iload 4, 2) := by decide +kernel
theorem d_W_866 : decode code 866 = .ok (.iconst 1, 1) := by decide +kernel
theorem d_W_867 : decode code 867 = .ok (.iadd, 1) := by decide +kernel
theorem d_W_868 : decode code 868 = .ok (.iaload, 1) := by decide +kernel
theorem d_W_869 : decode code 869 = .ok (.aload_n 0, 1) := by decide +kernel
theorem d_W_870 : decode code 870 = .ok (.iload 4, 2) := by decide +kernel
theorem d_W_872 : decode code 872 = .ok (.iconst 2, 1) := by decide +kernel
theorem d_W_873 : decode code 873 = .ok (.iadd, 1) := by decide +kernel
theorem d_W_874 : decode code 874 = .ok (.iaload, 1) := by decide +kernel
theorem d_W_875 : decode code 875 = .ok (.aload_n 0, 1) := by decide +kernel
theorem d_W_876 : decode code 876 = .ok (.iload 4, 2) := by decide +kernel
theorem d_W_878 : decode code 878 = .ok (.iconst 3, 1) := by decide +kernel
theorem d_W_879 : decode code 879 = .ok (.iadd, 1) := by decide +kernel
theorem d_W_880 : decode code 880 = .ok (.iaload, 1) := by decide +kernel
theorem lk_W_92 : jLk "CitingLettersLaw" 92 ⟨"CitingLetters", "path", "(III)I"⟩ := Or.inl (jt_4 154 rfl rfl)
theorem d_W_881 : decode code 881 = .ok (.invokevirtual 92, 3) := by decide +kernel
theorem d_W_884 : decode code 884 = .ok (.aload_n 2, 1) := by decide +kernel
theorem d_W_885 : decode code 885 = .ok (.aload_n 0, 1) := by decide +kernel
theorem d_W_886 : decode code 886 = .ok (.iload 4, 2) := by decide +kernel
theorem d_W_888 : decode code 888 = .ok (.iconst 1, 1) := by decide +kernel
theorem d_W_889 : decode code 889 = .ok (.iadd, 1) := by decide +kernel
theorem d_W_890 : decode code 890 = .ok (.iaload, 1) := by decide +kernel
theorem d_W_891 : decode code 891 = .ok (.aload_n 0, 1) := by decide +kernel
theorem d_W_892 : decode code 892 = .ok (.iload 4, 2) := by decide +kernel
theorem d_W_894 : decode code 894 = .ok (.iconst 2, 1) := by decide +kernel
theorem d_W_895 : decode code 895 = .ok (.iadd, 1) := by decide +kernel
theorem d_W_896 : decode code 896 = .ok (.iaload, 1) := by decide +kernel
theorem d_W_897 : decode code 897 = .ok (.aload_n 0, 1) := by decide +kernel
theorem d_W_898 : decode code 898 = .ok (.iload 4, 2) := by decide +kernel
theorem d_W_900 : decode code 900 = .ok (.iconst 3, 1) := by decide +kernel
theorem d_W_901 : decode code 901 = .ok (.iadd, 1) := by decide +kernel
theorem d_W_902 : decode code 902 = .ok (.iaload, 1) := by decide +kernel
theorem lk_W_95 : jLk "CitingLettersLaw" 95 ⟨"CitingLettersModel", "path", "(III)I"⟩ := Or.inl (jt_8 19 rfl rfl)
theorem d_W_903 : decode code 903 = .ok (.invokevirtual 95, 3) := by decide +kernel
theorem d_W_906 : decode code 906 = .ok (.if_icmp .eq (821), 3) := by decide +kernel
theorem d_W_911 : decode code 911 = .ok (.aload_n 1, 1) := by decide +kernel
theorem d_W_912 : decode code 912 = .ok (.aload_n 0, 1) := by decide +kernel
theorem d_W_913 : decode code 913 = .ok (.iload 4, 2) := by decide +kernel
theorem d_W_915 : decode code 915 = .ok (.iconst 1, 1) := by decide +kernel
theorem d_W_916 : decode code 916 = .ok (.iadd, 1) := by decide +kernel
theorem d_W_917 : decode code 917 = .ok (.iaload, 1) := by decide +kernel
theorem lk_W_96 : jLk "CitingLettersLaw" 96 ⟨"CitingLetters", "sum", "(I)I"⟩ := Or.inl (jt_4 170 rfl rfl)
theorem d_W_918 : decode code 918 = .ok (.invokevirtual 96, 3) := by decide +kernel
theorem d_W_921 : decode code 921 = .ok (.aload_n 2, 1) := by decide +kernel
theorem d_W_922 : decode code 922 = .ok (.aload_n 0, 1) := by decide +kernel
theorem d_W_923 : decode code 923 = .ok (.iload 4, 2) := by decide +kernel
theorem d_W_925 : decode code 925 = .ok (.iconst 1, 1) := by decide +kernel
theorem d_W_926 : decode code 926 = .ok (.iadd, 1) := by decide +kernel
theorem d_W_927 : decode code 927 = .ok (.iaload, 1) := by decide +kernel
theorem lk_W_99 : jLk "CitingLettersLaw" 99 ⟨"CitingLettersModel", "sum", "(I)I"⟩ := Or.inl (jt_8 24 rfl rfl)
theorem d_W_928 : decode code 928 = .ok (.invokevirtual 99, 3) := by decide +kernel
theorem d_W_931 : decode code 931 = .ok (.if_icmp .eq (796), 3) := by decide +kernel
theorem d_W_936 : decode code 936 = .ok (.aload_n 1, 1) := by decide +kernel
theorem d_W_937 : decode code 937 = .ok (.aload_n 0, 1) := by decide +kernel
theorem d_W_938 : decode code 938 = .ok (.iload 4, 2) := by decide +kernel
theorem d_W_940 : decode code 940 = .ok (.iconst 1, 1) := by decide +kernel
theorem d_W_941 : decode code 941 = .ok (.iadd, 1) := by decide +kernel
theorem d_W_942 : decode code 942 = .ok (.iaload, 1) := by decide +kernel
theorem d_W_943 : decode code 943 = .ok (.aload_n 0, 1) := by decide +kernel
theorem d_W_944 : decode code 944 = .ok (.iload 4, 2) := by decide +kernel
theorem d_W_946 : decode code 946 = .ok (.iconst 2, 1) := by decide +kernel
theorem d_W_947 : decode code 947 = .ok (.iadd, 1) := by decide +kernel
theorem d_W_948 : decode code 948 = .ok (.iaload, 1) := by decide +kernel
theorem lk_W_100 : jLk "CitingLettersLaw" 100 ⟨"CitingLetters", "number", "(II)I"⟩ := Or.inl (jt_4 174 rfl rfl)
theorem d_W_949 : decode code 949 = .ok (.invokevirtual 100, 3) := by decide +kernel
theorem d_W_952 : decode code 952 = .ok (.aload_n 2, 1) := by decide +kernel
theorem d_W_953 : decode code 953 = .ok (.aload_n 0, 1) := by decide +kernel
theorem d_W_954 : decode code 954 = .ok (.iload 4, 2) := by decide +kernel
theorem d_W_956 : decode code 956 = .ok (.iconst 1, 1) := by decide +kernel
theorem d_W_957 : decode code 957 = .ok (.iadd, 1) := by decide +kernel
theorem d_W_958 : decode code 958 = .ok (.iaload, 1) := by decide +kernel
theorem d_W_959 : decode code 959 = .ok (.aload_n 0, 1) := by decide +kernel
theorem d_W_960 : decode code 960 = .ok (.iload 4, 2) := by decide +kernel
theorem d_W_962 : decode code 962 = .ok (.iconst 2, 1) := by decide +kernel
theorem d_W_963 : decode code 963 = .ok (.iadd, 1) := by decide +kernel
theorem d_W_964 : decode code 964 = .ok (.iaload, 1) := by decide +kernel
theorem lk_W_103 : jLk "CitingLettersLaw" 103 ⟨"CitingLettersModel", "number", "(II)I"⟩ := Or.inl (jt_8 28 rfl rfl)
theorem d_W_965 : decode code 965 = .ok (.invokevirtual 103, 3) := by decide +kernel
theorem d_W_968 : decode code 968 = .ok (.if_icmp .eq (759), 3) := by decide +kernel
theorem d_W_973 : decode code 973 = .ok (.aload_n 1, 1) := by decide +kernel
theorem d_W_974 : decode code 974 = .ok (.aload_n 0, 1) := by decide +kernel
theorem d_W_975 : decode code 975 = .ok (.iload 4, 2) := by decide +kernel
theorem d_W_977 : decode code 977 = .ok (.iconst 1, 1) := by decide +kernel
theorem d_W_978 : decode code 978 = .ok (.iadd, 1) := by decide +kernel
theorem d_W_979 : decode code 979 = .ok (.iaload, 1) := by decide +kernel
theorem d_W_980 : decode code 980 = .ok (.aload_n 0, 1) := by decide +kernel
theorem d_W_981 : decode code 981 = .ok (.iload 4, 2) := by decide +kernel
theorem d_W_983 : decode code 983 = .ok (.iconst 2, 1) := by decide +kernel
theorem d_W_984 : decode code 984 = .ok (.iadd, 1) := by decide +kernel
theorem d_W_985 : decode code 985 = .ok (.iaload, 1) := by decide +kernel
theorem d_W_986 : decode code 986 = .ok (.aload_n 0, 1) := by decide +kernel
theorem d_W_987 : decode code 987 = .ok (.iload 4, 2) := by decide +kernel
theorem d_W_989 : decode code 989 = .ok (.iconst 3, 1) := by decide +kernel
theorem d_W_990 : decode code 990 = .ok (.iadd, 1) := by decide +kernel
theorem d_W_991 : decode code 991 = .ok (.iaload, 1) := by decide +kernel
theorem lk_W_104 : jLk "CitingLettersLaw" 104 ⟨"CitingLetters", "pair", "(III)I"⟩ := Or.inl (jt_4 183 rfl rfl)
theorem d_W_992 : decode code 992 = .ok (.invokevirtual 104, 3) := by decide +kernel
theorem d_W_995 : decode code 995 = .ok (.aload_n 2, 1) := by decide +kernel
theorem d_W_996 : decode code 996 = .ok (.aload_n 0, 1) := by decide +kernel
theorem d_W_997 : decode code 997 = .ok (.iload 4, 2) := by decide +kernel
theorem d_W_999 : decode code 999 = .ok (.iconst 1, 1) := by decide +kernel
theorem d_W_1000 : decode code 1000 = .ok (.iadd, 1) := by decide +kernel
theorem d_W_1001 : decode code 1001 = .ok (.iaload, 1) := by decide +kernel
theorem d_W_1002 : decode code 1002 = .ok (.aload_n 0, 1) := by decide +kernel
theorem d_W_1003 : decode code 1003 = .ok (.iload 4, 2) := by decide +kernel
theorem d_W_1005 : decode code 1005 = .ok (.iconst 2, 1) := by decide +kernel
theorem d_W_1006 : decode code 1006 = .ok (.iadd, 1) := by decide +kernel
theorem d_W_1007 : decode code 1007 = .ok (.iaload, 1) := by decide +kernel
theorem d_W_1008 : decode code 1008 = .ok (.aload_n 0, 1) := by decide +kernel
theorem d_W_1009 : decode code 1009 = .ok (.iload 4, 2) := by decide +kernel
theorem d_W_1011 : decode code 1011 = .ok (.iconst 3, 1) := by decide +kernel
theorem d_W_1012 : decode code 1012 = .ok (.iadd, 1) := by decide +kernel
theorem d_W_1013 : decode code 1013 = .ok (.iaload, 1) := by decide +kernel
theorem lk_W_107 : jLk "CitingLettersLaw" 107 ⟨"CitingLettersModel", "pair", "(III)I"⟩ := Or.inl (jt_8 36 rfl rfl)
theorem d_W_1014 : decode code 1014 = .ok (.invokevirtual 107, 3) := by decide +kernel
theorem d_W_1017 : decode code 1017 = .ok (.if_icmp .eq (710), 3) := by decide +kernel
theorem d_W_1022 : decode code 1022 = .ok (.aload_n 1, 1) := by decide +kernel
theorem d_W_1023 : decode code 1023 = .ok (.aload_n 0, 1) := by decide +kernel
theorem d_W_1024 : decode code 1024 = .ok (.iload 4, 2) := by decide +kernel
theorem d_W_1026 : decode code 1026 = .ok (.iconst 1, 1) := by decide +kernel
theorem d_W_1027 : decode code 1027 = .ok (.iadd, 1) := by decide +kernel
theorem d_W_1028 : decode code 1028 = .ok (.iaload, 1) := by decide +kernel
theorem lk_W_108 : jLk "CitingLettersLaw" 108 ⟨"CitingLetters", "list", "(I)I"⟩ := Or.inl (jt_4 192 rfl rfl)
theorem d_W_1029 : decode code 1029 = .ok (.invokevirtual 108, 3) := by decide +kernel
theorem d_W_1032 : decode code 1032 = .ok (.aload_n 2, 1) := by decide +kernel
theorem d_W_1033 : decode code 1033 = .ok (.aload_n 0, 1) := by decide +kernel
theorem d_W_1034 : decode code 1034 = .ok (.iload 4, 2) := by decide +kernel
theorem d_W_1036 : decode code 1036 = .ok (.iconst 1, 1) := by decide +kernel
theorem d_W_1037 : decode code 1037 = .ok (.iadd, 1) := by decide +kernel
theorem d_W_1038 : decode code 1038 = .ok (.iaload, 1) := by decide +kernel
theorem lk_W_111 : jLk "CitingLettersLaw" 111 ⟨"CitingLettersModel", "list", "(I)I"⟩ := Or.inl (jt_8 40 rfl rfl)
theorem d_W_1039 : decode code 1039 = .ok (.invokevirtual 111, 3) := by decide +kernel
theorem d_W_1042 : decode code 1042 = .ok (.if_icmp .eq (685), 3) := by decide +kernel
theorem d_W_1047 : decode code 1047 = .ok (.aload_n 1, 1) := by decide +kernel
theorem d_W_1048 : decode code 1048 = .ok (.aload_n 0, 1) := by decide +kernel
theorem d_W_1049 : decode code 1049 = .ok (.iload 4, 2) := by decide +kernel
theorem d_W_1051 : decode code 1051 = .ok (.iconst 1, 1) := by decide +kernel
theorem d_W_1052 : decode code 1052 = .ok (.iadd, 1) := by decide +kernel
theorem d_W_1053 : decode code 1053 = .ok (.iaload, 1) := by decide +kernel
theorem d_W_1054 : decode code 1054 = .ok (.aload_n 0, 1) := by decide +kernel
theorem d_W_1055 : decode code 1055 = .ok (.iload 4, 2) := by decide +kernel
theorem d_W_1057 : decode code 1057 = .ok (.iconst 2, 1) := by decide +kernel
theorem d_W_1058 : decode code 1058 = .ok (.iadd, 1) := by decide +kernel
theorem d_W_1059 : decode code 1059 = .ok (.iaload, 1) := by decide +kernel
theorem d_W_1060 : decode code 1060 = .ok (.aload_n 0, 1) := by decide +kernel
theorem d_W_1061 : decode code 1061 = .ok (.iload 4, 2) := by decide +kernel
theorem d_W_1063 : decode code 1063 = .ok (.iconst 3, 1) := by decide +kernel
theorem d_W_1064 : decode code 1064 = .ok (.iadd, 1) := by decide +kernel
theorem d_W_1065 : decode code 1065 = .ok (.iaload, 1) := by decide +kernel
theorem lk_W_112 : jLk "CitingLettersLaw" 112 ⟨"CitingLetters", "tells", "(III)I"⟩ := Or.inl (jt_4 196 rfl rfl)
theorem d_W_1066 : decode code 1066 = .ok (.invokevirtual 112, 3) := by decide +kernel
theorem d_W_1069 : decode code 1069 = .ok (.aload_n 2, 1) := by decide +kernel
theorem d_W_1070 : decode code 1070 = .ok (.aload_n 0, 1) := by decide +kernel
theorem d_W_1071 : decode code 1071 = .ok (.iload 4, 2) := by decide +kernel
theorem d_W_1073 : decode code 1073 = .ok (.iconst 1, 1) := by decide +kernel
theorem d_W_1074 : decode code 1074 = .ok (.iadd, 1) := by decide +kernel
theorem d_W_1075 : decode code 1075 = .ok (.iaload, 1) := by decide +kernel
theorem d_W_1076 : decode code 1076 = .ok (.aload_n 0, 1) := by decide +kernel
theorem d_W_1077 : decode code 1077 = .ok (.iload 4, 2) := by decide +kernel
theorem d_W_1079 : decode code 1079 = .ok (.iconst 2, 1) := by decide +kernel
theorem d_W_1080 : decode code 1080 = .ok (.iadd, 1) := by decide +kernel
theorem d_W_1081 : decode code 1081 = .ok (.iaload, 1) := by decide +kernel
theorem d_W_1082 : decode code 1082 = .ok (.aload_n 0, 1) := by decide +kernel
theorem d_W_1083 : decode code 1083 = .ok (.iload 4, 2) := by decide +kernel
theorem d_W_1085 : decode code 1085 = .ok (.iconst 3, 1) := by decide +kernel
theorem d_W_1086 : decode code 1086 = .ok (.iadd, 1) := by decide +kernel
theorem d_W_1087 : decode code 1087 = .ok (.iaload, 1) := by decide +kernel
theorem lk_W_115 : jLk "CitingLettersLaw" 115 ⟨"CitingLettersModel", "tells", "(III)I"⟩ := Or.inl (jt_8 48 rfl rfl)
theorem d_W_1088 : decode code 1088 = .ok (.invokevirtual 115, 3) := by decide +kernel
theorem d_W_1091 : decode code 1091 = .ok (.if_icmp .eq (636), 3) := by decide +kernel
theorem d_W_1096 : decode code 1096 = .ok (.aload_n 1, 1) := by decide +kernel
theorem d_W_1097 : decode code 1097 = .ok (.aload_n 0, 1) := by decide +kernel
theorem d_W_1098 : decode code 1098 = .ok (.iload 4, 2) := by decide +kernel
theorem d_W_1100 : decode code 1100 = .ok (.iconst 1, 1) := by decide +kernel
theorem d_W_1101 : decode code 1101 = .ok (.iadd, 1) := by decide +kernel
theorem d_W_1102 : decode code 1102 = .ok (.iaload, 1) := by decide +kernel
theorem lk_W_116 : jLk "CitingLettersLaw" 116 ⟨"CitingLetters", "errs", "(I)I"⟩ := Or.inl (jt_4 208 rfl rfl)
theorem d_W_1103 : decode code 1103 = .ok (.invokevirtual 116, 3) := by decide +kernel
theorem d_W_1106 : decode code 1106 = .ok (.aload_n 2, 1) := by decide +kernel
theorem d_W_1107 : decode code 1107 = .ok (.aload_n 0, 1) := by decide +kernel
theorem d_W_1108 : decode code 1108 = .ok (.iload 4, 2) := by decide +kernel
theorem d_W_1110 : decode code 1110 = .ok (.iconst 1, 1) := by decide +kernel
theorem d_W_1111 : decode code 1111 = .ok (.iadd, 1) := by decide +kernel
theorem d_W_1112 : decode code 1112 = .ok (.iaload, 1) := by decide +kernel
theorem lk_W_119 : jLk "CitingLettersLaw" 119 ⟨"CitingLettersModel", "errs", "(I)I"⟩ := Or.inl (jt_8 72 rfl rfl)
theorem d_W_1113 : decode code 1113 = .ok (.invokevirtual 119, 3) := by decide +kernel
theorem d_W_1116 : decode code 1116 = .ok (.if_icmp .eq (611), 3) := by decide +kernel
theorem d_W_1121 : decode code 1121 = .ok (.aload_n 1, 1) := by decide +kernel
theorem d_W_1122 : decode code 1122 = .ok (.aload_n 0, 1) := by decide +kernel
theorem d_W_1123 : decode code 1123 = .ok (.iload 4, 2) := by decide +kernel
theorem d_W_1125 : decode code 1125 = .ok (.iconst 1, 1) := by decide +kernel
theorem d_W_1126 : decode code 1126 = .ok (.iadd, 1) := by decide +kernel
theorem d_W_1127 : decode code 1127 = .ok (.iaload, 1) := by decide +kernel
theorem lk_W_120 : jLk "CitingLettersLaw" 120 ⟨"CitingLetters", "chains", "(I)I"⟩ := Or.inl (jt_4 217 rfl rfl)
theorem d_W_1128 : decode code 1128 = .ok (.invokevirtual 120, 3) := by decide +kernel
theorem d_W_1131 : decode code 1131 = .ok (.aload_n 2, 1) := by decide +kernel
theorem d_W_1132 : decode code 1132 = .ok (.aload_n 0, 1) := by decide +kernel
theorem d_W_1133 : decode code 1133 = .ok (.iload 4, 2) := by decide +kernel
theorem d_W_1135 : decode code 1135 = .ok (.iconst 1, 1) := by decide +kernel
theorem d_W_1136 : decode code 1136 = .ok (.iadd, 1) := by decide +kernel
theorem d_W_1137 : decode code 1137 = .ok (.iaload, 1) := by decide +kernel
theorem lk_W_123 : jLk "CitingLettersLaw" 123 ⟨"CitingLettersModel", "chains", "(I)I"⟩ := Or.inl (jt_8 76 rfl rfl)
theorem d_W_1138 : decode code 1138 = .ok (.invokevirtual 123, 3) := by decide +kernel
theorem d_W_1141 : decode code 1141 = .ok (.if_icmp .eq (586), 3) := by decide +kernel
theorem d_W_1146 : decode code 1146 = .ok (.aload_n 1, 1) := by decide +kernel
theorem d_W_1147 : decode code 1147 = .ok (.aload_n 0, 1) := by decide +kernel
theorem d_W_1148 : decode code 1148 = .ok (.iload 4, 2) := by decide +kernel
theorem d_W_1150 : decode code 1150 = .ok (.iconst 1, 1) := by decide +kernel
theorem d_W_1151 : decode code 1151 = .ok (.iadd, 1) := by decide +kernel
theorem d_W_1152 : decode code 1152 = .ok (.iaload, 1) := by decide +kernel
theorem d_W_1153 : decode code 1153 = .ok (.aload_n 0, 1) := by decide +kernel
theorem d_W_1154 : decode code 1154 = .ok (.iload 4, 2) := by decide +kernel
theorem d_W_1156 : decode code 1156 = .ok (.iconst 2, 1) := by decide +kernel
theorem d_W_1157 : decode code 1157 = .ok (.iadd, 1) := by decide +kernel
theorem d_W_1158 : decode code 1158 = .ok (.iaload, 1) := by decide +kernel
theorem lk_W_124 : jLk "CitingLettersLaw" 124 ⟨"CitingLetters", "waits", "(II)I"⟩ := Or.inl (jt_5 1 rfl rfl)
theorem d_W_1159 : decode code 1159 = .ok (.invokevirtual 124, 3) := by decide +kernel
theorem d_W_1162 : decode code 1162 = .ok (.aload_n 2, 1) := by decide +kernel
theorem d_W_1163 : decode code 1163 = .ok (.aload_n 0, 1) := by decide +kernel
theorem d_W_1164 : decode code 1164 = .ok (.iload 4, 2) := by decide +kernel
theorem d_W_1166 : decode code 1166 = .ok (.iconst 1, 1) := by decide +kernel
theorem d_W_1167 : decode code 1167 = .ok (.iadd, 1) := by decide +kernel
theorem d_W_1168 : decode code 1168 = .ok (.iaload, 1) := by decide +kernel
theorem d_W_1169 : decode code 1169 = .ok (.aload_n 0, 1) := by decide +kernel
theorem d_W_1170 : decode code 1170 = .ok (.iload 4, 2) := by decide +kernel
theorem d_W_1172 : decode code 1172 = .ok (.iconst 2, 1) := by decide +kernel
theorem d_W_1173 : decode code 1173 = .ok (.iadd, 1) := by decide +kernel
theorem d_W_1174 : decode code 1174 = .ok (.iaload, 1) := by decide +kernel
theorem lk_W_127 : jLk "CitingLettersLaw" 127 ⟨"CitingLettersModel", "waits", "(II)I"⟩ := Or.inl (jt_8 88 rfl rfl)
theorem d_W_1175 : decode code 1175 = .ok (.invokevirtual 127, 3) := by decide +kernel
theorem d_W_1178 : decode code 1178 = .ok (.if_icmp .eq (549), 3) := by decide +kernel
theorem d_W_1183 : decode code 1183 = .ok (.aload_n 1, 1) := by decide +kernel
theorem d_W_1184 : decode code 1184 = .ok (.aload_n 0, 1) := by decide +kernel
theorem d_W_1185 : decode code 1185 = .ok (.iload 4, 2) := by decide +kernel
theorem d_W_1187 : decode code 1187 = .ok (.iconst 1, 1) := by decide +kernel
theorem d_W_1188 : decode code 1188 = .ok (.iadd, 1) := by decide +kernel
theorem d_W_1189 : decode code 1189 = .ok (.iaload, 1) := by decide +kernel
theorem lk_W_128 : jLk "CitingLettersLaw" 128 ⟨"CitingLetters", "ever", "(I)I"⟩ := Or.inl (jt_5 5 rfl rfl)
theorem d_W_1190 : decode code 1190 = .ok (.invokevirtual 128, 3) := by decide +kernel
theorem d_W_1193 : decode code 1193 = .ok (.aload_n 2, 1) := by decide +kernel
theorem d_W_1194 : decode code 1194 = .ok (.aload_n 0, 1) := by decide +kernel
theorem d_W_1195 : decode code 1195 = .ok (.iload 4, 2) := by decide +kernel
theorem d_W_1197 : decode code 1197 = .ok (.iconst 1, 1) := by decide +kernel
theorem d_W_1198 : decode code 1198 = .ok (.iadd, 1) := by decide +kernel
theorem d_W_1199 : decode code 1199 = .ok (.iaload, 1) := by decide +kernel
theorem lk_W_131 : jLk "CitingLettersLaw" 131 ⟨"CitingLettersModel", "ever", "(I)I"⟩ := Or.inl (jt_8 92 rfl rfl)
theorem d_W_1200 : decode code 1200 = .ok (.invokevirtual 131, 3) := by decide +kernel
theorem d_W_1203 : decode code 1203 = .ok (.if_icmp .eq (524), 3) := by decide +kernel
theorem d_W_1208 : decode code 1208 = .ok (.aload_n 1, 1) := by decide +kernel
theorem d_W_1209 : decode code 1209 = .ok (.aload_n 0, 1) := by decide +kernel
theorem d_W_1210 : decode code 1210 = .ok (.iload 4, 2) := by decide +kernel
theorem d_W_1212 : decode code 1212 = .ok (.iconst 1, 1) := by decide +kernel
theorem d_W_1213 : decode code 1213 = .ok (.iadd, 1) := by decide +kernel
theorem d_W_1214 : decode code 1214 = .ok (.iaload, 1) := by decide +kernel
theorem lk_W_132 : jLk "CitingLettersLaw" 132 ⟨"CitingLetters", "has", "(I)I"⟩ := Or.inl (jt_5 14 rfl rfl)
theorem d_W_1215 : decode code 1215 = .ok (.invokevirtual 132, 3) := by decide +kernel
theorem d_W_1218 : decode code 1218 = .ok (.aload_n 2, 1) := by decide +kernel
theorem d_W_1219 : decode code 1219 = .ok (.aload_n 0, 1) := by decide +kernel
theorem d_W_1220 : decode code 1220 = .ok (.iload 4, 2) := by decide +kernel
theorem d_W_1222 : decode code 1222 = .ok (.iconst 1, 1) := by decide +kernel
theorem d_W_1223 : decode code 1223 = .ok (.iadd, 1) := by decide +kernel
theorem d_W_1224 : decode code 1224 = .ok (.iaload, 1) := by decide +kernel
theorem lk_W_135 : jLk "CitingLettersLaw" 135 ⟨"CitingLettersModel", "has", "(I)I"⟩ := Or.inl (jt_8 100 rfl rfl)
theorem d_W_1225 : decode code 1225 = .ok (.invokevirtual 135, 3) := by decide +kernel
theorem d_W_1228 : decode code 1228 = .ok (.if_icmp .eq (499), 3) := by decide +kernel
theorem d_W_1233 : decode code 1233 = .ok (.aload_n 1, 1) := by decide +kernel
theorem d_W_1234 : decode code 1234 = .ok (.aload_n 0, 1) := by decide +kernel
theorem d_W_1235 : decode code 1235 = .ok (.iload 4, 2) := by decide +kernel
theorem d_W_1237 : decode code 1237 = .ok (.iconst 1, 1) := by decide +kernel
theorem d_W_1238 : decode code 1238 = .ok (.iadd, 1) := by decide +kernel
theorem d_W_1239 : decode code 1239 = .ok (.iaload, 1) := by decide +kernel
theorem d_W_1240 : decode code 1240 = .ok (.aload_n 0, 1) := by decide +kernel
theorem d_W_1241 : decode code 1241 = .ok (.iload 4, 2) := by decide +kernel
theorem d_W_1243 : decode code 1243 = .ok (.iconst 2, 1) := by decide +kernel
theorem d_W_1244 : decode code 1244 = .ok (.iadd, 1) := by decide +kernel
theorem d_W_1245 : decode code 1245 = .ok (.iaload, 1) := by decide +kernel
theorem lk_W_136 : jLk "CitingLettersLaw" 136 ⟨"CitingLetters", "readOn", "(II)I"⟩ := Or.inl (jt_5 26 rfl rfl)
theorem d_W_1246 : decode code 1246 = .ok (.invokevirtual 136, 3) := by decide +kernel
theorem d_W_1249 : decode code 1249 = .ok (.aload_n 2, 1) := by decide +kernel
theorem d_W_1250 : decode code 1250 = .ok (.aload_n 0, 1) := by decide +kernel
theorem d_W_1251 : decode code 1251 = .ok (.iload 4, 2) := by decide +kernel
theorem d_W_1253 : decode code 1253 = .ok (.iconst 1, 1) := by decide +kernel
theorem d_W_1254 : decode code 1254 = .ok (.iadd, 1) := by decide +kernel
theorem d_W_1255 : decode code 1255 = .ok (.iaload, 1) := by decide +kernel
theorem d_W_1256 : decode code 1256 = .ok (.aload_n 0, 1) := by decide +kernel
theorem d_W_1257 : decode code 1257 = .ok (.iload 4, 2) := by decide +kernel
theorem d_W_1259 : decode code 1259 = .ok (.iconst 2, 1) := by decide +kernel
theorem d_W_1260 : decode code 1260 = .ok (.iadd, 1) := by decide +kernel
theorem d_W_1261 : decode code 1261 = .ok (.iaload, 1) := by decide +kernel
theorem lk_W_139 : jLk "CitingLettersLaw" 139 ⟨"CitingLettersModel", "readOn", "(II)I"⟩ := Or.inl (jt_8 104 rfl rfl)
theorem d_W_1262 : decode code 1262 = .ok (.invokevirtual 139, 3) := by decide +kernel
theorem d_W_1265 : decode code 1265 = .ok (.if_icmp .eq (462), 3) := by decide +kernel
theorem d_W_1270 : decode code 1270 = .ok (.aload_n 1, 1) := by decide +kernel
theorem d_W_1271 : decode code 1271 = .ok (.aload_n 0, 1) := by decide +kernel
theorem d_W_1272 : decode code 1272 = .ok (.iload 4, 2) := by decide +kernel
theorem d_W_1274 : decode code 1274 = .ok (.iconst 1, 1) := by decide +kernel
theorem d_W_1275 : decode code 1275 = .ok (.iadd, 1) := by decide +kernel
theorem d_W_1276 : decode code 1276 = .ok (.iaload, 1) := by decide +kernel
theorem d_W_1277 : decode code 1277 = .ok (.aload_n 0, 1) := by decide +kernel
theorem d_W_1278 : decode code 1278 = .ok (.iload 4, 2) := by decide +kernel
theorem d_W_1280 : decode code 1280 = .ok (.iconst 2, 1) := by decide +kernel
theorem d_W_1281 : decode code 1281 = .ok (.iadd, 1) := by decide +kernel
theorem d_W_1282 : decode code 1282 = .ok (.iaload, 1) := by decide +kernel
theorem lk_W_140 : jLk "CitingLettersLaw" 140 ⟨"CitingLetters", "spread", "(II)I"⟩ := Or.inl (jt_5 30 rfl rfl)
theorem d_W_1283 : decode code 1283 = .ok (.invokevirtual 140, 3) := by decide +kernel
theorem d_W_1286 : decode code 1286 = .ok (.aload_n 2, 1) := by decide +kernel
theorem d_W_1287 : decode code 1287 = .ok (.aload_n 0, 1) := by decide +kernel
theorem d_W_1288 : decode code 1288 = .ok (.iload 4, 2) := by decide +kernel
theorem d_W_1290 : decode code 1290 = .ok (.iconst 1, 1) := by decide +kernel
theorem d_W_1291 : decode code 1291 = .ok (.iadd, 1) := by decide +kernel
theorem d_W_1292 : decode code 1292 = .ok (.iaload, 1) := by decide +kernel
theorem d_W_1293 : decode code 1293 = .ok (.aload_n 0, 1) := by decide +kernel
theorem d_W_1294 : decode code 1294 = .ok (.iload 4, 2) := by decide +kernel
theorem d_W_1296 : decode code 1296 = .ok (.iconst 2, 1) := by decide +kernel
theorem d_W_1297 : decode code 1297 = .ok (.iadd, 1) := by decide +kernel
theorem d_W_1298 : decode code 1298 = .ok (.iaload, 1) := by decide +kernel
theorem lk_W_143 : jLk "CitingLettersLaw" 143 ⟨"CitingLettersModel", "spread", "(II)I"⟩ := Or.inl (jt_8 108 rfl rfl)
theorem d_W_1299 : decode code 1299 = .ok (.invokevirtual 143, 3) := by decide +kernel
theorem d_W_1302 : decode code 1302 = .ok (.if_icmp .eq (425), 3) := by decide +kernel
theorem d_W_1307 : decode code 1307 = .ok (.aload_n 1, 1) := by decide +kernel
theorem d_W_1308 : decode code 1308 = .ok (.aload_n 0, 1) := by decide +kernel
theorem d_W_1309 : decode code 1309 = .ok (.iload 4, 2) := by decide +kernel
theorem d_W_1311 : decode code 1311 = .ok (.iconst 1, 1) := by decide +kernel
theorem d_W_1312 : decode code 1312 = .ok (.iadd, 1) := by decide +kernel
theorem d_W_1313 : decode code 1313 = .ok (.iaload, 1) := by decide +kernel
theorem lk_W_144 : jLk "CitingLettersLaw" 144 ⟨"CitingLetters", "all", "(I)I"⟩ := Or.inl (jt_5 34 rfl rfl)
theorem d_W_1314 : decode code 1314 = .ok (.invokevirtual 144, 3) := by decide +kernel
theorem d_W_1317 : decode code 1317 = .ok (.aload_n 2, 1) := by decide +kernel
theorem d_W_1318 : decode code 1318 = .ok (.aload_n 0, 1) := by decide +kernel
theorem d_W_1319 : decode code 1319 = .ok (.iload 4, 2) := by decide +kernel
theorem d_W_1321 : decode code 1321 = .ok (.iconst 1, 1) := by decide +kernel
theorem d_W_1322 : decode code 1322 = .ok (.iadd, 1) := by decide +kernel
theorem d_W_1323 : decode code 1323 = .ok (.iaload, 1) := by decide +kernel
theorem lk_W_147 : jLk "CitingLettersLaw" 147 ⟨"CitingLettersModel", "all", "(I)I"⟩ := Or.inl (jt_8 115 rfl rfl)
theorem d_W_1324 : decode code 1324 = .ok (.invokevirtual 147, 3) := by decide +kernel
theorem d_W_1327 : decode code 1327 = .ok (.if_icmp .eq (400), 3) := by decide +kernel
theorem d_W_1332 : decode code 1332 = .ok (.aload_n 1, 1) := by decide +kernel
theorem d_W_1333 : decode code 1333 = .ok (.aload_n 0, 1) := by decide +kernel
theorem d_W_1334 : decode code 1334 = .ok (.iload 4, 2) := by decide +kernel
theorem d_W_1336 : decode code 1336 = .ok (.iconst 1, 1) := by decide +kernel
theorem d_W_1337 : decode code 1337 = .ok (.iadd, 1) := by decide +kernel
theorem d_W_1338 : decode code 1338 = .ok (.iaload, 1) := by decide +kernel
theorem lk_W_148 : jLk "CitingLettersLaw" 148 ⟨"CitingLetters", "burn", "(I)I"⟩ := Or.inl (jt_5 39 rfl rfl)
theorem d_W_1339 : decode code 1339 = .ok (.invokevirtual 148, 3) := by decide +kernel
theorem d_W_1342 : decode code 1342 = .ok (.aload_n 2, 1) := by decide +kernel
theorem d_W_1343 : decode code 1343 = .ok (.aload_n 0, 1) := by decide +kernel
theorem d_W_1344 : decode code 1344 = .ok (.iload 4, 2) := by decide +kernel
theorem d_W_1346 : decode code 1346 = .ok (.iconst 1, 1) := by decide +kernel
theorem d_W_1347 : decode code 1347 = .ok (.iadd, 1) := by decide +kernel
theorem d_W_1348 : decode code 1348 = .ok (.iaload, 1) := by decide +kernel
theorem lk_W_151 : jLk "CitingLettersLaw" 151 ⟨"CitingLettersModel", "burn", "(I)I"⟩ := Or.inl (jt_8 119 rfl rfl)
theorem d_W_1349 : decode code 1349 = .ok (.invokevirtual 151, 3) := by decide +kernel
theorem d_W_1352 : decode code 1352 = .ok (.if_icmp .eq (375), 3) := by decide +kernel
theorem d_W_1357 : decode code 1357 = .ok (.aload_n 1, 1) := by decide +kernel
theorem d_W_1358 : decode code 1358 = .ok (.aload_n 0, 1) := by decide +kernel
theorem d_W_1359 : decode code 1359 = .ok (.iload 4, 2) := by decide +kernel
theorem d_W_1361 : decode code 1361 = .ok (.iconst 1, 1) := by decide +kernel
theorem d_W_1362 : decode code 1362 = .ok (.iadd, 1) := by decide +kernel
theorem d_W_1363 : decode code 1363 = .ok (.iaload, 1) := by decide +kernel
theorem d_W_1364 : decode code 1364 = .ok (.aload_n 0, 1) := by decide +kernel
theorem d_W_1365 : decode code 1365 = .ok (.iload 4, 2) := by decide +kernel
theorem d_W_1367 : decode code 1367 = .ok (.iconst 2, 1) := by decide +kernel
theorem d_W_1368 : decode code 1368 = .ok (.iadd, 1) := by decide +kernel
theorem d_W_1369 : decode code 1369 = .ok (.iaload, 1) := by decide +kernel
theorem lk_W_152 : jLk "CitingLettersLaw" 152 ⟨"CitingLetters", "could", "(II)I"⟩ := Or.inl (jt_5 47 rfl rfl)
theorem d_W_1370 : decode code 1370 = .ok (.invokevirtual 152, 3) := by decide +kernel
theorem d_W_1373 : decode code 1373 = .ok (.aload_n 2, 1) := by decide +kernel
theorem d_W_1374 : decode code 1374 = .ok (.aload_n 0, 1) := by decide +kernel
theorem d_W_1375 : decode code 1375 = .ok (.iload 4, 2) := by decide +kernel
theorem d_W_1377 : decode code 1377 = .ok (.iconst 1, 1) := by decide +kernel
theorem d_W_1378 : decode code 1378 = .ok (.iadd, 1) := by decide +kernel
theorem d_W_1379 : decode code 1379 = .ok (.iaload, 1) := by decide +kernel
theorem d_W_1380 : decode code 1380 = .ok (.aload_n 0, 1) := by decide +kernel
theorem d_W_1381 : decode code 1381 = .ok (.iload 4, 2) := by decide +kernel
theorem d_W_1383 : decode code 1383 = .ok (.iconst 2, 1) := by decide +kernel
theorem d_W_1384 : decode code 1384 = .ok (.iadd, 1) := by decide +kernel
theorem d_W_1385 : decode code 1385 = .ok (.iaload, 1) := by decide +kernel
theorem lk_W_155 : jLk "CitingLettersLaw" 155 ⟨"CitingLettersModel", "could", "(II)I"⟩ := Or.inl (jt_8 123 rfl rfl)
theorem d_W_1386 : decode code 1386 = .ok (.invokevirtual 155, 3) := by decide +kernel
theorem d_W_1389 : decode code 1389 = .ok (.if_icmp .eq (338), 3) := by decide +kernel
theorem d_W_1394 : decode code 1394 = .ok (.aload_n 1, 1) := by decide +kernel
theorem d_W_1395 : decode code 1395 = .ok (.aload_n 0, 1) := by decide +kernel
theorem d_W_1396 : decode code 1396 = .ok (.iload 4, 2) := by decide +kernel
theorem d_W_1398 : decode code 1398 = .ok (.iconst 1, 1) := by decide +kernel
theorem d_W_1399 : decode code 1399 = .ok (.iadd, 1) := by decide +kernel
theorem d_W_1400 : decode code 1400 = .ok (.iaload, 1) := by decide +kernel
theorem d_W_1401 : decode code 1401 = .ok (.aload_n 0, 1) := by decide +kernel
theorem d_W_1402 : decode code 1402 = .ok (.iload 4, 2) := by decide +kernel
theorem d_W_1404 : decode code 1404 = .ok (.iconst 2, 1) := by decide +kernel
theorem d_W_1405 : decode code 1405 = .ok (.iadd, 1) := by decide +kernel
theorem d_W_1406 : decode code 1406 = .ok (.iaload, 1) := by decide +kernel
theorem d_W_1407 : decode code 1407 = .ok (.aload_n 0, 1) := by decide +kernel
theorem d_W_1408 : decode code 1408 = .ok (.iload 4, 2) := by decide +kernel
theorem d_W_1410 : decode code 1410 = .ok (.iconst 3, 1) := by decide +kernel
theorem d_W_1411 : decode code 1411 = .ok (.iadd, 1) := by decide +kernel
theorem d_W_1412 : decode code 1412 = .ok (.iaload, 1) := by decide +kernel
theorem lk_W_156 : jLk "CitingLettersLaw" 156 ⟨"CitingLetters", "forged", "(III)I"⟩ := Or.inl (jt_5 59 rfl rfl)
theorem d_W_1413 : decode code 1413 = .ok (.invokevirtual 156, 3) := by decide +kernel
theorem d_W_1416 : decode code 1416 = .ok (.aload_n 2, 1) := by decide +kernel
theorem d_W_1417 : decode code 1417 = .ok (.aload_n 0, 1) := by decide +kernel
theorem d_W_1418 : decode code 1418 = .ok (.iload 4, 2) := by decide +kernel
theorem d_W_1420 : decode code 1420 = .ok (.iconst 1, 1) := by decide +kernel
theorem d_W_1421 : decode code 1421 = .ok (.iadd, 1) := by decide +kernel
theorem d_W_1422 : decode code 1422 = .ok (.iaload, 1) := by decide +kernel
theorem d_W_1423 : decode code 1423 = .ok (.aload_n 0, 1) := by decide +kernel
theorem d_W_1424 : decode code 1424 = .ok (.iload 4, 2) := by decide +kernel
theorem d_W_1426 : decode code 1426 = .ok (.iconst 2, 1) := by decide +kernel
theorem d_W_1427 : decode code 1427 = .ok (.iadd, 1) := by decide +kernel
theorem d_W_1428 : decode code 1428 = .ok (.iaload, 1) := by decide +kernel
theorem d_W_1429 : decode code 1429 = .ok (.aload_n 0, 1) := by decide +kernel
theorem d_W_1430 : decode code 1430 = .ok (.iload 4, 2) := by decide +kernel
theorem d_W_1432 : decode code 1432 = .ok (.iconst 3, 1) := by decide +kernel
theorem d_W_1433 : decode code 1433 = .ok (.iadd, 1) := by decide +kernel
theorem d_W_1434 : decode code 1434 = .ok (.iaload, 1) := by decide +kernel
theorem lk_W_159 : jLk "CitingLettersLaw" 159 ⟨"CitingLettersModel", "forged", "(III)I"⟩ := Or.inl (jt_8 131 rfl rfl)
theorem d_W_1435 : decode code 1435 = .ok (.invokevirtual 159, 3) := by decide +kernel
theorem d_W_1438 : decode code 1438 = .ok (.if_icmp .eq (289), 3) := by decide +kernel
theorem d_W_1443 : decode code 1443 = .ok (.aload_n 1, 1) := by decide +kernel
theorem d_W_1444 : decode code 1444 = .ok (.aload_n 0, 1) := by decide +kernel
theorem d_W_1445 : decode code 1445 = .ok (.iload 4, 2) := by decide +kernel
theorem d_W_1447 : decode code 1447 = .ok (.iconst 1, 1) := by decide +kernel
theorem d_W_1448 : decode code 1448 = .ok (.iadd, 1) := by decide +kernel
theorem d_W_1449 : decode code 1449 = .ok (.iaload, 1) := by decide +kernel
theorem d_W_1450 : decode code 1450 = .ok (.aload_n 0, 1) := by decide +kernel
theorem d_W_1451 : decode code 1451 = .ok (.iload 4, 2) := by decide +kernel
theorem d_W_1453 : decode code 1453 = .ok (.iconst 2, 1) := by decide +kernel
theorem d_W_1454 : decode code 1454 = .ok (.iadd, 1) := by decide +kernel
theorem d_W_1455 : decode code 1455 = .ok (.iaload, 1) := by decide +kernel
theorem lk_W_160 : jLk "CitingLettersLaw" 160 ⟨"CitingLetters", "forgers", "(II)I"⟩ := Or.inl (jt_5 96 rfl rfl)
theorem d_W_1456 : decode code 1456 = .ok (.invokevirtual 160, 3) := by decide +kernel
theorem d_W_1459 : decode code 1459 = .ok (.aload_n 2, 1) := by decide +kernel
theorem d_W_1460 : decode code 1460 = .ok (.aload_n 0, 1) := by decide +kernel
theorem d_W_1461 : decode code 1461 = .ok (.iload 4, 2) := by decide +kernel
theorem d_W_1463 : decode code 1463 = .ok (.iconst 1, 1) := by decide +kernel
theorem d_W_1464 : decode code 1464 = .ok (.iadd, 1) := by decide +kernel
theorem d_W_1465 : decode code 1465 = .ok (.iaload, 1) := by decide +kernel
theorem d_W_1466 : decode code 1466 = .ok (.aload_n 0, 1) := by decide +kernel
theorem d_W_1467 : decode code 1467 = .ok (.iload 4, 2) := by decide +kernel
theorem d_W_1469 : decode code 1469 = .ok (.iconst 2, 1) := by decide +kernel
theorem d_W_1470 : decode code 1470 = .ok (.iadd, 1) := by decide +kernel
theorem d_W_1471 : decode code 1471 = .ok (.iaload, 1) := by decide +kernel
theorem lk_W_163 : jLk "CitingLettersLaw" 163 ⟨"CitingLettersModel", "forgers", "(II)I"⟩ := Or.inl (jt_8 154 rfl rfl)
theorem d_W_1472 : decode code 1472 = .ok (.invokevirtual 163, 3) := by decide +kernel
theorem d_W_1475 : decode code 1475 = .ok (.if_icmp .eq (252), 3) := by decide +kernel
theorem d_W_1480 : decode code 1480 = .ok (.aload_n 1, 1) := by decide +kernel
theorem d_W_1481 : decode code 1481 = .ok (.aload_n 0, 1) := by decide +kernel
theorem d_W_1482 : decode code 1482 = .ok (.iload 4, 2) := by decide +kernel
theorem d_W_1484 : decode code 1484 = .ok (.iconst 1, 1) := by decide +kernel
theorem d_W_1485 : decode code 1485 = .ok (.iadd, 1) := by decide +kernel
theorem d_W_1486 : decode code 1486 = .ok (.iaload, 1) := by decide +kernel
theorem d_W_1487 : decode code 1487 = .ok (.aload_n 0, 1) := by decide +kernel
theorem d_W_1488 : decode code 1488 = .ok (.iload 4, 2) := by decide +kernel
theorem d_W_1490 : decode code 1490 = .ok (.iconst 2, 1) := by decide +kernel
theorem d_W_1491 : decode code 1491 = .ok (.iadd, 1) := by decide +kernel
theorem d_W_1492 : decode code 1492 = .ok (.iaload, 1) := by decide +kernel
theorem lk_W_164 : jLk "CitingLettersLaw" 164 ⟨"CitingLetters", "ahead", "(II)I"⟩ := Or.inl (jt_5 100 rfl rfl)
theorem d_W_1493 : decode code 1493 = .ok (.invokevirtual 164, 3) := by decide +kernel
theorem d_W_1496 : decode code 1496 = .ok (.aload_n 2, 1) := by decide +kernel
theorem d_W_1497 : decode code 1497 = .ok (.aload_n 0, 1) := by decide +kernel
theorem d_W_1498 : decode code 1498 = .ok (.iload 4, 2) := by decide +kernel
theorem d_W_1500 : decode code 1500 = .ok (.iconst 1, 1) := by decide +kernel
theorem d_W_1501 : decode code 1501 = .ok (.iadd, 1) := by decide +kernel
theorem d_W_1502 : decode code 1502 = .ok (.iaload, 1) := by decide +kernel
theorem d_W_1503 : decode code 1503 = .ok (.aload_n 0, 1) := by decide +kernel
theorem d_W_1504 : decode code 1504 = .ok (.iload 4, 2) := by decide +kernel
theorem d_W_1506 : decode code 1506 = .ok (.iconst 2, 1) := by decide +kernel
theorem d_W_1507 : decode code 1507 = .ok (.iadd, 1) := by decide +kernel
theorem d_W_1508 : decode code 1508 = .ok (.iaload, 1) := by decide +kernel
theorem lk_W_167 : jLk "CitingLettersLaw" 167 ⟨"CitingLettersModel", "ahead", "(II)I"⟩ := Or.inl (jt_8 158 rfl rfl)
theorem d_W_1509 : decode code 1509 = .ok (.invokevirtual 167, 3) := by decide +kernel
theorem d_W_1512 : decode code 1512 = .ok (.if_icmp .eq (215), 3) := by decide +kernel
theorem d_W_1517 : decode code 1517 = .ok (.aload_n 1, 1) := by decide +kernel
theorem d_W_1518 : decode code 1518 = .ok (.aload_n 0, 1) := by decide +kernel
theorem d_W_1519 : decode code 1519 = .ok (.iload 4, 2) := by decide +kernel
theorem d_W_1521 : decode code 1521 = .ok (.iconst 1, 1) := by decide +kernel
theorem d_W_1522 : decode code 1522 = .ok (.iadd, 1) := by decide +kernel
theorem d_W_1523 : decode code 1523 = .ok (.iaload, 1) := by decide +kernel
theorem lk_W_168 : jLk "CitingLettersLaw" 168 ⟨"CitingLetters", "orders", "(I)I"⟩ := Or.inl (jt_5 114 rfl rfl)
theorem d_W_1524 : decode code 1524 = .ok (.invokevirtual 168, 3) := by decide +kernel
theorem d_W_1527 : decode code 1527 = .ok (.aload_n 2, 1) := by decide +kernel
theorem d_W_1528 : decode code 1528 = .ok (.aload_n 0, 1) := by decide +kernel
theorem d_W_1529 : decode code 1529 = .ok (.iload 4, 2) := by decide +kernel
theorem d_W_1531 : decode code 1531 = .ok (.iconst 1, 1) := by decide +kernel
theorem d_W_1532 : decode code 1532 = .ok (.iadd, 1) := by decide +kernel
theorem d_W_1533 : decode code 1533 = .ok (.iaload, 1) := by decide +kernel
theorem lk_W_171 : jLk "CitingLettersLaw" 171 ⟨"CitingLettersModel", "orders", "(I)I"⟩ := Or.inl (jt_8 166 rfl rfl)
theorem d_W_1534 : decode code 1534 = .ok (.invokevirtual 171, 3) := by decide +kernel
theorem d_W_1537 : decode code 1537 = .ok (.if_icmp .eq (190), 3) := by decide +kernel
theorem d_W_1542 : decode code 1542 = .ok (.aload_n 1, 1) := by decide +kernel
theorem d_W_1543 : decode code 1543 = .ok (.aload_n 0, 1) := by decide +kernel
theorem d_W_1544 : decode code 1544 = .ok (.iload 4, 2) := by decide +kernel
theorem d_W_1546 : decode code 1546 = .ok (.iconst 1, 1) := by decide +kernel
theorem d_W_1547 : decode code 1547 = .ok (.iadd, 1) := by decide +kernel
theorem d_W_1548 : decode code 1548 = .ok (.iaload, 1) := by decide +kernel
theorem d_W_1549 : decode code 1549 = .ok (.aload_n 0, 1) := by decide +kernel
theorem d_W_1550 : decode code 1550 = .ok (.iload 4, 2) := by decide +kernel
theorem d_W_1552 : decode code 1552 = .ok (.iconst 2, 1) := by decide +kernel
theorem d_W_1553 : decode code 1553 = .ok (.iadd, 1) := by decide +kernel
theorem d_W_1554 : decode code 1554 = .ok (.iaload, 1) := by decide +kernel
theorem d_W_1555 : decode code 1555 = .ok (.aload_n 0, 1) := by decide +kernel
theorem d_W_1556 : decode code 1556 = .ok (.iload 4, 2) := by decide +kernel
theorem d_W_1558 : decode code 1558 = .ok (.iconst 3, 1) := by decide +kernel
theorem d_W_1559 : decode code 1559 = .ok (.iadd, 1) := by decide +kernel
theorem d_W_1560 : decode code 1560 = .ok (.iaload, 1) := by decide +kernel
theorem lk_W_172 : jLk "CitingLettersLaw" 172 ⟨"CitingLetters", "order", "(III)I"⟩ := Or.inl (jt_5 140 rfl rfl)
theorem d_W_1561 : decode code 1561 = .ok (.invokevirtual 172, 3) := by decide +kernel
theorem d_W_1564 : decode code 1564 = .ok (.aload_n 2, 1) := by decide +kernel
theorem d_W_1565 : decode code 1565 = .ok (.aload_n 0, 1) := by decide +kernel
theorem d_W_1566 : decode code 1566 = .ok (.iload 4, 2) := by decide +kernel
theorem d_W_1568 : decode code 1568 = .ok (.iconst 1, 1) := by decide +kernel
theorem d_W_1569 : decode code 1569 = .ok (.iadd, 1) := by decide +kernel
theorem d_W_1570 : decode code 1570 = .ok (.iaload, 1) := by decide +kernel
theorem d_W_1571 : decode code 1571 = .ok (.aload_n 0, 1) := by decide +kernel
theorem d_W_1572 : decode code 1572 = .ok (.iload 4, 2) := by decide +kernel
theorem d_W_1574 : decode code 1574 = .ok (.iconst 2, 1) := by decide +kernel
theorem d_W_1575 : decode code 1575 = .ok (.iadd, 1) := by decide +kernel
theorem d_W_1576 : decode code 1576 = .ok (.iaload, 1) := by decide +kernel
theorem d_W_1577 : decode code 1577 = .ok (.aload_n 0, 1) := by decide +kernel
theorem d_W_1578 : decode code 1578 = .ok (.iload 4, 2) := by decide +kernel
theorem d_W_1580 : decode code 1580 = .ok (.iconst 3, 1) := by decide +kernel
theorem d_W_1581 : decode code 1581 = .ok (.iadd, 1) := by decide +kernel
theorem d_W_1582 : decode code 1582 = .ok (.iaload, 1) := by decide +kernel
theorem lk_W_175 : jLk "CitingLettersLaw" 175 ⟨"CitingLettersModel", "order", "(III)I"⟩ := Or.inl (jt_8 182 rfl rfl)
theorem d_W_1583 : decode code 1583 = .ok (.invokevirtual 175, 3) := by decide +kernel
theorem d_W_1586 : decode code 1586 = .ok (.if_icmp .eq (141), 3) := by decide +kernel
theorem d_W_1591 : decode code 1591 = .ok (.aload_n 1, 1) := by decide +kernel
theorem d_W_1592 : decode code 1592 = .ok (.aload_n 0, 1) := by decide +kernel
theorem d_W_1593 : decode code 1593 = .ok (.iload 4, 2) := by decide +kernel
theorem d_W_1595 : decode code 1595 = .ok (.iconst 1, 1) := by decide +kernel
theorem d_W_1596 : decode code 1596 = .ok (.iadd, 1) := by decide +kernel
theorem d_W_1597 : decode code 1597 = .ok (.iaload, 1) := by decide +kernel
theorem d_W_1598 : decode code 1598 = .ok (.aload_n 0, 1) := by decide +kernel
theorem d_W_1599 : decode code 1599 = .ok (.iload 4, 2) := by decide +kernel
theorem d_W_1601 : decode code 1601 = .ok (.iconst 2, 1) := by decide +kernel
theorem d_W_1602 : decode code 1602 = .ok (.iadd, 1) := by decide +kernel
theorem d_W_1603 : decode code 1603 = .ok (.iaload, 1) := by decide +kernel
theorem d_W_1604 : decode code 1604 = .ok (.aload_n 0, 1) := by decide +kernel
theorem d_W_1605 : decode code 1605 = .ok (.iload 4, 2) := by decide +kernel
theorem d_W_1607 : decode code 1607 = .ok (.iconst 3, 1) := by decide +kernel
theorem d_W_1608 : decode code 1608 = .ok (.iadd, 1) := by decide +kernel
theorem d_W_1609 : decode code 1609 = .ok (.iaload, 1) := by decide +kernel
theorem lk_W_176 : jLk "CitingLettersLaw" 176 ⟨"CitingLetters", "first", "(III)I"⟩ := Or.inl (jt_5 157 rfl rfl)
theorem d_W_1610 : decode code 1610 = .ok (.invokevirtual 176, 3) := by decide +kernel
theorem d_W_1613 : decode code 1613 = .ok (.aload_n 2, 1) := by decide +kernel
theorem d_W_1614 : decode code 1614 = .ok (.aload_n 0, 1) := by decide +kernel
theorem d_W_1615 : decode code 1615 = .ok (.iload 4, 2) := by decide +kernel
theorem d_W_1617 : decode code 1617 = .ok (.iconst 1, 1) := by decide +kernel
theorem d_W_1618 : decode code 1618 = .ok (.iadd, 1) := by decide +kernel
theorem d_W_1619 : decode code 1619 = .ok (.iaload, 1) := by decide +kernel
theorem d_W_1620 : decode code 1620 = .ok (.aload_n 0, 1) := by decide +kernel
theorem d_W_1621 : decode code 1621 = .ok (.iload 4, 2) := by decide +kernel
theorem d_W_1623 : decode code 1623 = .ok (.iconst 2, 1) := by decide +kernel
theorem d_W_1624 : decode code 1624 = .ok (.iadd, 1) := by decide +kernel
theorem d_W_1625 : decode code 1625 = .ok (.iaload, 1) := by decide +kernel
theorem d_W_1626 : decode code 1626 = .ok (.aload_n 0, 1) := by decide +kernel
theorem d_W_1627 : decode code 1627 = .ok (.iload 4, 2) := by decide +kernel
theorem d_W_1629 : decode code 1629 = .ok (.iconst 3, 1) := by decide +kernel
theorem d_W_1630 : decode code 1630 = .ok (.iadd, 1) := by decide +kernel
theorem d_W_1631 : decode code 1631 = .ok (.iaload, 1) := by decide +kernel
theorem lk_W_179 : jLk "CitingLettersLaw" 179 ⟨"CitingLettersModel", "first", "(III)I"⟩ := Or.inl (jt_8 186 rfl rfl)
theorem d_W_1632 : decode code 1632 = .ok (.invokevirtual 179, 3) := by decide +kernel
theorem d_W_1635 : decode code 1635 = .ok (.if_icmp .eq (92), 3) := by decide +kernel
theorem d_W_1640 : decode code 1640 = .ok (.aload_n 1, 1) := by decide +kernel
theorem d_W_1641 : decode code 1641 = .ok (.aload_n 0, 1) := by decide +kernel
theorem d_W_1642 : decode code 1642 = .ok (.iload 4, 2) := by decide +kernel
theorem d_W_1644 : decode code 1644 = .ok (.iconst 1, 1) := by decide +kernel
theorem d_W_1645 : decode code 1645 = .ok (.iadd, 1) := by decide +kernel
theorem d_W_1646 : decode code 1646 = .ok (.iaload, 1) := by decide +kernel
theorem lk_W_180 : jLk "CitingLettersLaw" 180 ⟨"CitingLetters", "ask", "(I)I"⟩ := Or.inl (jt_5 162 rfl rfl)
theorem d_W_1647 : decode code 1647 = .ok (.invokevirtual 180, 3) := by decide +kernel
theorem d_W_1650 : decode code 1650 = .ok (.aload_n 2, 1) := by decide +kernel
theorem d_W_1651 : decode code 1651 = .ok (.aload_n 0, 1) := by decide +kernel
theorem d_W_1652 : decode code 1652 = .ok (.iload 4, 2) := by decide +kernel
theorem d_W_1654 : decode code 1654 = .ok (.iconst 1, 1) := by decide +kernel
theorem d_W_1655 : decode code 1655 = .ok (.iadd, 1) := by decide +kernel
theorem d_W_1656 : decode code 1656 = .ok (.iaload, 1) := by decide +kernel
theorem lk_W_183 : jLk "CitingLettersLaw" 183 ⟨"CitingLettersModel", "ask", "(I)I"⟩ := Or.inl (jt_8 194 rfl rfl)
theorem d_W_1657 : decode code 1657 = .ok (.invokevirtual 183, 3) := by decide +kernel
theorem d_W_1660 : decode code 1660 = .ok (.if_icmp .eq (67), 3) := by decide +kernel
theorem d_W_1665 : decode code 1665 = .ok (.aload_n 1, 1) := by decide +kernel
theorem d_W_1666 : decode code 1666 = .ok (.aload_n 0, 1) := by decide +kernel
theorem d_W_1667 : decode code 1667 = .ok (.iload 4, 2) := by decide +kernel
theorem d_W_1669 : decode code 1669 = .ok (.iconst 1, 1) := by decide +kernel
theorem d_W_1670 : decode code 1670 = .ok (.iadd, 1) := by decide +kernel
theorem d_W_1671 : decode code 1671 = .ok (.iaload, 1) := by decide +kernel
theorem d_W_1672 : decode code 1672 = .ok (.aload_n 0, 1) := by decide +kernel
theorem d_W_1673 : decode code 1673 = .ok (.iload 4, 2) := by decide +kernel
theorem d_W_1675 : decode code 1675 = .ok (.iconst 2, 1) := by decide +kernel
theorem d_W_1676 : decode code 1676 = .ok (.iadd, 1) := by decide +kernel
theorem d_W_1677 : decode code 1677 = .ok (.iaload, 1) := by decide +kernel
theorem lk_W_184 : jLk "CitingLettersLaw" 184 ⟨"CitingLetters", "hangs", "(II)I"⟩ := Or.inl (jt_5 179 rfl rfl)
theorem d_W_1678 : decode code 1678 = .ok (.invokevirtual 184, 3) := by decide +kernel
theorem d_W_1681 : decode code 1681 = .ok (.aload_n 2, 1) := by decide +kernel
theorem d_W_1682 : decode code 1682 = .ok (.aload_n 0, 1) := by decide +kernel
theorem d_W_1683 : decode code 1683 = .ok (.iload 4, 2) := by decide +kernel
theorem d_W_1685 : decode code 1685 = .ok (.iconst 1, 1) := by decide +kernel
theorem d_W_1686 : decode code 1686 = .ok (.iadd, 1) := by decide +kernel
theorem d_W_1687 : decode code 1687 = .ok (.iaload, 1) := by decide +kernel
theorem d_W_1688 : decode code 1688 = .ok (.aload_n 0, 1) := by decide +kernel
theorem d_W_1689 : decode code 1689 = .ok (.iload 4, 2) := by decide +kernel
theorem d_W_1691 : decode code 1691 = .ok (.iconst 2, 1) := by decide +kernel
theorem d_W_1692 : decode code 1692 = .ok (.iadd, 1) := by decide +kernel
theorem d_W_1693 : decode code 1693 = .ok (.iaload, 1) := by decide +kernel
theorem lk_W_187 : jLk "CitingLettersLaw" 187 ⟨"CitingLettersModel", "hangs", "(II)I"⟩ := Or.inl (jt_8 198 rfl rfl)
theorem d_W_1694 : decode code 1694 = .ok (.invokevirtual 187, 3) := by decide +kernel
theorem d_W_1697 : decode code 1697 = .ok (.if_icmp .eq (30), 3) := by decide +kernel
theorem d_W_1702 : decode code 1702 = .ok (.aload_n 1, 1) := by decide +kernel
theorem d_W_1703 : decode code 1703 = .ok (.aload_n 0, 1) := by decide +kernel
theorem d_W_1704 : decode code 1704 = .ok (.iload 4, 2) := by decide +kernel
theorem d_W_1706 : decode code 1706 = .ok (.iconst 1, 1) := by decide +kernel
theorem d_W_1707 : decode code 1707 = .ok (.iadd, 1) := by decide +kernel
theorem d_W_1708 : decode code 1708 = .ok (.iaload, 1) := by decide +kernel
theorem lk_W_188 : jLk "CitingLettersLaw" 188 ⟨"CitingLetters", "count", "(I)I"⟩ := Or.inl (jt_5 191 rfl rfl)
theorem d_W_1709 : decode code 1709 = .ok (.invokevirtual 188, 3) := by decide +kernel
theorem d_W_1712 : decode code 1712 = .ok (.aload_n 2, 1) := by decide +kernel
theorem d_W_1713 : decode code 1713 = .ok (.aload_n 0, 1) := by decide +kernel
theorem d_W_1714 : decode code 1714 = .ok (.iload 4, 2) := by decide +kernel
theorem d_W_1716 : decode code 1716 = .ok (.iconst 1, 1) := by decide +kernel
theorem d_W_1717 : decode code 1717 = .ok (.iadd, 1) := by decide +kernel
theorem d_W_1718 : decode code 1718 = .ok (.iaload, 1) := by decide +kernel
theorem lk_W_191 : jLk "CitingLettersLaw" 191 ⟨"CitingLettersModel", "count", "(I)I"⟩ := Or.inl (jt_8 202 rfl rfl)
theorem d_W_1719 : decode code 1719 = .ok (.invokevirtual 191, 3) := by decide +kernel
theorem d_W_1722 : decode code 1722 = .ok (.if_icmp .eq (5), 3) := by decide +kernel
set_option maxRecDepth 20000
/-! the law's cases -/
section LWA
variable {G : jG} {n q pc : Nat} {ls : List (Nat × Value)} {st : List Value} {M : jMem} {Q : jQT}
theorem law_vp {i L : Nat} (h : i < L) (hL : L ≤ 3072) : vp_in (Int32.ofNat i) L ∧ (Int32.ofNat i).toNatClampNeg = i := by
  have e : (Int32.ofNat i).toNatClampNeg = i := Int32.toNatClampNeg_ofNat_of_lt (by omega)
  exact ⟨fun z => by
    rcases z with z | z
    · exact nI_pos (by omega) z
    · rw [e] at z
      omega, e⟩
theorem law_arg {b L : Nat} {xs : Nat → Int32} (k : Nat) {kI : Int} {i : Nat} (hX : va_X b L xs (js0 G) (js0 G).heap) (hb : b < jL G) (hL : L ≤ 3072) (hi : i + k < L) (hkI : Int32.ofInt kI = Int32.ofNat k) (h0 : ls[0]? = some (4, .int (Int32.ofNat i))) (h4 : ls[4]? = some (0, .ref b))
    (d0 : decode code pc = .ok (.aload_n 0, 1)) (d1 : decode code (pc + 1) = .ok (.iload 4, 2)) (d3 : decode code (pc + 3) = .ok (.iconst kI, 1)) (d4 : decode code (pc + 4) = .ok (.iadd, 1)) (d5 : decode code (pc + 5) = .ok (.iaload, 1)) (K : JQ G (Y_W n q) (pc + 6) ls (.int (xs (i + k)) :: st) M Q) : JQ G (Y_W n q) pc ls st M Q := by
  refine J.aloadb 4 d0 rfl h4 ?_
  refine J.iload 0 d1 h0 ?_
  refine J.iconst d3 hkI ?_
  refine J.iadd d4 ?_
  rw [← Int32.ofNat_add]
  obtain ⟨h1, h2⟩ := law_vp hi hL
  refine J.sld hX hb h1 d5 ?_
  rw [h2]
  exact K
end LWA
abbrev lawls (G : jG) (b i : Nat) : List (Nat × Value) := [(4, .int (Int32.ofNat i)), (3, jr G 149), (2, jr G 109), (1, jr G 1), (0, .ref b)]
theorem law_0 {G : jG} (hG : jFul G) {b L n q : Nat} {xs : Nat → Int32} {i : Nat} (hX : va_X b L xs (js0 G) (js0 G).heap) (hb : b < jL G) (hL : L ≤ 3072) (hi : i + 6 ≤ L) {M M1 M2 : jMem} {v : Int32} {Q : jQT} (h1 : f_C_feed (xs (i + 1)) (xs (i + 2)) (xs (i + 3)) (xs (i + 4)) (xs (i + 5)) M = some (v, M1)) (h2 : f_M_feed (xs (i + 1)) (xs (i + 2)) (xs (i + 3)) (xs (i + 4)) (xs (i + 5)) M1 = some (v, M2)) (K : JQ G (Y_W n q) 1727 (lawls G b i) [] M2 Q) : JQ G (Y_W n q) 216 (lawls G b i) [] M Q := by
  refine J.aload_n 3 d_W_216 rfl rfl ?_
  refine law_arg 1 hX hb hL (by omega) (by decide) rfl rfl d_W_217 d_W_218 d_W_220 d_W_221 d_W_222 ?_
  refine law_arg 2 hX hb hL (by omega) (by decide) rfl rfl d_W_223 d_W_224 d_W_226 d_W_227 d_W_228 ?_
  refine law_arg 3 hX hb hL (by omega) (by decide) rfl rfl d_W_229 d_W_230 d_W_232 d_W_233 d_W_234 ?_
  refine law_arg 4 hX hb hL (by omega) (by decide) rfl rfl d_W_235 d_W_236 d_W_238 d_W_239 d_W_240 ?_
  refine law_arg 5 hX hb hL (by omega) (by decide) rfl rfl d_W_241 d_W_242 d_W_244 d_W_245 d_W_246 ?_
  refine J.cVi (ci := 0) Y_C_feed (As := [.int (xs (i + 1)), .int (xs (i + 2)), .int (xs (i + 3)), .int (xs (i + 4)), .int (xs (i + 5))]) (rest := []) hG d_W_247 mi_C_feed mv_C_feed lk_W_21 ⟨rfl, rfl, (Nat.le_of_ble_eq_true rfl)⟩ ⟨rfl, rfl⟩ ⟨_, _, rfl⟩ (c_C_feed hG h1) rfl (Nat.le_trans jcN (Nat.le_of_ble_eq_true rfl)) ?_
  refine J.aload_n 2 d_W_250 rfl rfl ?_
  refine law_arg 1 hX hb hL (by omega) (by decide) rfl rfl d_W_251 d_W_252 d_W_254 d_W_255 d_W_256 ?_
  refine law_arg 2 hX hb hL (by omega) (by decide) rfl rfl d_W_257 d_W_258 d_W_260 d_W_261 d_W_262 ?_
  refine law_arg 3 hX hb hL (by omega) (by decide) rfl rfl d_W_263 d_W_264 d_W_266 d_W_267 d_W_268 ?_
  refine law_arg 4 hX hb hL (by omega) (by decide) rfl rfl d_W_269 d_W_270 d_W_272 d_W_273 d_W_274 ?_
  refine law_arg 5 hX hb hL (by omega) (by decide) rfl rfl d_W_275 d_W_276 d_W_278 d_W_279 d_W_280 ?_
  refine J.cVi (ci := 10) Y_M_feed (As := [.int (xs (i + 1)), .int (xs (i + 2)), .int (xs (i + 3)), .int (xs (i + 4)), .int (xs (i + 5))]) (rest := [.int v]) hG d_W_281 mi_M_feed mv_M_feed lk_W_25 ⟨rfl, rfl, (Nat.le_of_ble_eq_true rfl)⟩ ⟨rfl, rfl⟩ ⟨_, _, rfl⟩ (c_M_feed hG h2) rfl (Nat.le_trans (jcI jcN) (Nat.le_of_ble_eq_true rfl)) ?_
  exact J.icmp_eq 1727 d_W_284 rfl (fun _ => K) (fun e => absurd rfl e)
theorem law_1 {G : jG} (hG : jFul G) {b L n q : Nat} {xs : Nat → Int32} {i : Nat} (hX : va_X b L xs (js0 G) (js0 G).heap) (hb : b < jL G) (hL : L ≤ 3072) (hi : i + 6 ≤ L) {M M1 M2 : jMem} {v : Int32} {Q : jQT} (h1 : f_C_text (xs (i + 1)) M = some (v, M1)) (h2 : f_M_text (xs (i + 1)) M1 = some (v, M2)) (K : JQ G (Y_W n q) 1727 (lawls G b i) [] M2 Q) : JQ G (Y_W n q) 289 (lawls G b i) [] M Q := by
  refine J.aload_n 3 d_W_289 rfl rfl ?_
  refine law_arg 1 hX hb hL (by omega) (by decide) rfl rfl d_W_290 d_W_291 d_W_293 d_W_294 d_W_295 ?_
  refine J.cVi (ci := 0) Y_C_text (As := [.int (xs (i + 1))]) (rest := []) hG d_W_296 mi_C_text mv_C_text lk_W_26 ⟨rfl, rfl, (Nat.le_of_ble_eq_true rfl)⟩ ⟨rfl, rfl⟩ ⟨_, _, rfl⟩ (c_C_text hG h1) rfl (Nat.le_trans jcN (Nat.le_of_ble_eq_true rfl)) ?_
  refine J.aload_n 2 d_W_299 rfl rfl ?_
  refine law_arg 1 hX hb hL (by omega) (by decide) rfl rfl d_W_300 d_W_301 d_W_303 d_W_304 d_W_305 ?_
  refine J.cVi (ci := 10) Y_M_text (As := [.int (xs (i + 1))]) (rest := [.int v]) hG d_W_306 mi_M_text mv_M_text lk_W_30 ⟨rfl, rfl, (Nat.le_of_ble_eq_true rfl)⟩ ⟨rfl, rfl⟩ ⟨_, _, rfl⟩ (c_M_text hG h2) rfl (Nat.le_trans (jcI jcN) (Nat.le_of_ble_eq_true rfl)) ?_
  exact J.icmp_eq 1727 d_W_309 rfl (fun _ => K) (fun e => absurd rfl e)
theorem law_2 {G : jG} (hG : jFul G) {b L n q : Nat} {xs : Nat → Int32} {i : Nat} (hX : va_X b L xs (js0 G) (js0 G).heap) (hb : b < jL G) (hL : L ≤ 3072) (hi : i + 6 ≤ L) {M M1 M2 : jMem} {v : Int32} {Q : jQT} (h1 : f_C_fault (xs (i + 1)) M = some (v, M1)) (h2 : f_M_fault (xs (i + 1)) M1 = some (v, M2)) (K : JQ G (Y_W n q) 1727 (lawls G b i) [] M2 Q) : JQ G (Y_W n q) 314 (lawls G b i) [] M Q := by
  refine J.aload_n 3 d_W_314 rfl rfl ?_
  refine law_arg 1 hX hb hL (by omega) (by decide) rfl rfl d_W_315 d_W_316 d_W_318 d_W_319 d_W_320 ?_
  refine J.cVi (ci := 0) Y_C_fault (As := [.int (xs (i + 1))]) (rest := []) hG d_W_321 mi_C_fault mv_C_fault lk_W_31 ⟨rfl, rfl, (Nat.le_of_ble_eq_true rfl)⟩ ⟨rfl, rfl⟩ ⟨_, _, rfl⟩ (c_C_fault hG h1) rfl (Nat.le_trans jcN (Nat.le_of_ble_eq_true rfl)) ?_
  refine J.aload_n 2 d_W_324 rfl rfl ?_
  refine law_arg 1 hX hb hL (by omega) (by decide) rfl rfl d_W_325 d_W_326 d_W_328 d_W_329 d_W_330 ?_
  refine J.cVi (ci := 10) Y_M_fault (As := [.int (xs (i + 1))]) (rest := [.int v]) hG d_W_331 mi_M_fault mv_M_fault lk_W_34 ⟨rfl, rfl, (Nat.le_of_ble_eq_true rfl)⟩ ⟨rfl, rfl⟩ ⟨_, _, rfl⟩ (c_M_fault hG h2) rfl (Nat.le_trans (jcI jcN) (Nat.le_of_ble_eq_true rfl)) ?_
  exact J.icmp_eq 1727 d_W_334 rfl (fun _ => K) (fun e => absurd rfl e)
theorem law_3 {G : jG} (hG : jFul G) {b L n q : Nat} {xs : Nat → Int32} {i : Nat} (hX : va_X b L xs (js0 G) (js0 G).heap) (hb : b < jL G) (hL : L ≤ 3072) (hi : i + 6 ≤ L) {M M1 M2 : jMem} {v : Int32} {Q : jQT} (h1 : f_C_way (xs (i + 1)) (xs (i + 2)) (xs (i + 3)) M = some (v, M1)) (h2 : f_M_way (xs (i + 1)) (xs (i + 2)) (xs (i + 3)) M1 = some (v, M2)) (K : JQ G (Y_W n q) 1727 (lawls G b i) [] M2 Q) : JQ G (Y_W n q) 339 (lawls G b i) [] M Q := by
  refine J.aload_n 3 d_W_339 rfl rfl ?_
  refine law_arg 1 hX hb hL (by omega) (by decide) rfl rfl d_W_340 d_W_341 d_W_343 d_W_344 d_W_345 ?_
  refine law_arg 2 hX hb hL (by omega) (by decide) rfl rfl d_W_346 d_W_347 d_W_349 d_W_350 d_W_351 ?_
  refine law_arg 3 hX hb hL (by omega) (by decide) rfl rfl d_W_352 d_W_353 d_W_355 d_W_356 d_W_357 ?_
  refine J.cVi (ci := 0) Y_C_way (As := [.int (xs (i + 1)), .int (xs (i + 2)), .int (xs (i + 3))]) (rest := []) hG d_W_358 mi_C_way mv_C_way lk_W_35 ⟨rfl, rfl, (Nat.le_of_ble_eq_true rfl)⟩ ⟨rfl, rfl⟩ ⟨_, _, rfl⟩ (c_C_way hG h1) rfl (Nat.le_trans jcN (Nat.le_of_ble_eq_true rfl)) ?_
  refine J.aload_n 2 d_W_361 rfl rfl ?_
  refine law_arg 1 hX hb hL (by omega) (by decide) rfl rfl d_W_362 d_W_363 d_W_365 d_W_366 d_W_367 ?_
  refine law_arg 2 hX hb hL (by omega) (by decide) rfl rfl d_W_368 d_W_369 d_W_371 d_W_372 d_W_373 ?_
  refine law_arg 3 hX hb hL (by omega) (by decide) rfl rfl d_W_374 d_W_375 d_W_377 d_W_378 d_W_379 ?_
  refine J.cVi (ci := 10) Y_M_way (As := [.int (xs (i + 1)), .int (xs (i + 2)), .int (xs (i + 3))]) (rest := [.int v]) hG d_W_380 mi_M_way mv_M_way lk_W_39 ⟨rfl, rfl, (Nat.le_of_ble_eq_true rfl)⟩ ⟨rfl, rfl⟩ ⟨_, _, rfl⟩ (c_M_way hG h2) rfl (Nat.le_trans (jcI jcN) (Nat.le_of_ble_eq_true rfl)) ?_
  exact J.icmp_eq 1727 d_W_383 rfl (fun _ => K) (fun e => absurd rfl e)
theorem law_4 {G : jG} (hG : jFul G) {b L n q : Nat} {xs : Nat → Int32} {i : Nat} (hX : va_X b L xs (js0 G) (js0 G).heap) (hb : b < jL G) (hL : L ≤ 3072) (hi : i + 6 ≤ L) {M M1 M2 : jMem} {v : Int32} {Q : jQT} (h1 : f_C_write (xs (i + 1)) (xs (i + 2)) (xs (i + 3)) (xs (i + 4)) (xs (i + 5)) M = some (v, M1)) (h2 : f_M_write (xs (i + 1)) (xs (i + 2)) (xs (i + 3)) (xs (i + 4)) (xs (i + 5)) M1 = some (v, M2)) (K : JQ G (Y_W n q) 1727 (lawls G b i) [] M2 Q) : JQ G (Y_W n q) 388 (lawls G b i) [] M Q := by
  refine J.aload_n 3 d_W_388 rfl rfl ?_
  refine law_arg 1 hX hb hL (by omega) (by decide) rfl rfl d_W_389 d_W_390 d_W_392 d_W_393 d_W_394 ?_
  refine law_arg 2 hX hb hL (by omega) (by decide) rfl rfl d_W_395 d_W_396 d_W_398 d_W_399 d_W_400 ?_
  refine law_arg 3 hX hb hL (by omega) (by decide) rfl rfl d_W_401 d_W_402 d_W_404 d_W_405 d_W_406 ?_
  refine law_arg 4 hX hb hL (by omega) (by decide) rfl rfl d_W_407 d_W_408 d_W_410 d_W_411 d_W_412 ?_
  refine law_arg 5 hX hb hL (by omega) (by decide) rfl rfl d_W_413 d_W_414 d_W_416 d_W_417 d_W_418 ?_
  refine J.cVi (ci := 0) Y_C_write (As := [.int (xs (i + 1)), .int (xs (i + 2)), .int (xs (i + 3)), .int (xs (i + 4)), .int (xs (i + 5))]) (rest := []) hG d_W_419 mi_C_write mv_C_write lk_W_40 ⟨rfl, rfl, (Nat.le_of_ble_eq_true rfl)⟩ ⟨rfl, rfl⟩ ⟨_, _, rfl⟩ (c_C_write hG h1) rfl (Nat.le_trans jcN (Nat.le_of_ble_eq_true rfl)) ?_
  refine J.aload_n 2 d_W_422 rfl rfl ?_
  refine law_arg 1 hX hb hL (by omega) (by decide) rfl rfl d_W_423 d_W_424 d_W_426 d_W_427 d_W_428 ?_
  refine law_arg 2 hX hb hL (by omega) (by decide) rfl rfl d_W_429 d_W_430 d_W_432 d_W_433 d_W_434 ?_
  refine law_arg 3 hX hb hL (by omega) (by decide) rfl rfl d_W_435 d_W_436 d_W_438 d_W_439 d_W_440 ?_
  refine law_arg 4 hX hb hL (by omega) (by decide) rfl rfl d_W_441 d_W_442 d_W_444 d_W_445 d_W_446 ?_
  refine law_arg 5 hX hb hL (by omega) (by decide) rfl rfl d_W_447 d_W_448 d_W_450 d_W_451 d_W_452 ?_
  refine J.cVi (ci := 10) Y_M_write (As := [.int (xs (i + 1)), .int (xs (i + 2)), .int (xs (i + 3)), .int (xs (i + 4)), .int (xs (i + 5))]) (rest := [.int v]) hG d_W_453 mi_M_write mv_M_write lk_W_43 ⟨rfl, rfl, (Nat.le_of_ble_eq_true rfl)⟩ ⟨rfl, rfl⟩ ⟨_, _, rfl⟩ (c_M_write hG h2) rfl (Nat.le_trans (jcI jcN) (Nat.le_of_ble_eq_true rfl)) ?_
  exact J.icmp_eq 1727 d_W_456 rfl (fun _ => K) (fun e => absurd rfl e)
theorem law_5 {G : jG} (hG : jFul G) {b L n q : Nat} {xs : Nat → Int32} {i : Nat} (hX : va_X b L xs (js0 G) (js0 G).heap) (hb : b < jL G) (hL : L ≤ 3072) (hi : i + 6 ≤ L) {M M1 M2 : jMem} {v : Int32} {Q : jQT} (h1 : f_C_late (xs (i + 1)) (xs (i + 2)) M = some (v, M1)) (h2 : f_M_late (xs (i + 1)) (xs (i + 2)) M1 = some (v, M2)) (K : JQ G (Y_W n q) 1727 (lawls G b i) [] M2 Q) : JQ G (Y_W n q) 461 (lawls G b i) [] M Q := by
  refine J.aload_n 3 d_W_461 rfl rfl ?_
  refine law_arg 1 hX hb hL (by omega) (by decide) rfl rfl d_W_462 d_W_463 d_W_465 d_W_466 d_W_467 ?_
  refine law_arg 2 hX hb hL (by omega) (by decide) rfl rfl d_W_468 d_W_469 d_W_471 d_W_472 d_W_473 ?_
  refine J.cVi (ci := 0) Y_C_late (As := [.int (xs (i + 1)), .int (xs (i + 2))]) (rest := []) hG d_W_474 mi_C_late mv_C_late lk_W_44 ⟨rfl, rfl, (Nat.le_of_ble_eq_true rfl)⟩ ⟨rfl, rfl⟩ ⟨_, _, rfl⟩ (c_C_late hG h1) rfl (Nat.le_trans jcN (Nat.le_of_ble_eq_true rfl)) ?_
  refine J.aload_n 2 d_W_477 rfl rfl ?_
  refine law_arg 1 hX hb hL (by omega) (by decide) rfl rfl d_W_478 d_W_479 d_W_481 d_W_482 d_W_483 ?_
  refine law_arg 2 hX hb hL (by omega) (by decide) rfl rfl d_W_484 d_W_485 d_W_487 d_W_488 d_W_489 ?_
  refine J.cVi (ci := 10) Y_M_late (As := [.int (xs (i + 1)), .int (xs (i + 2))]) (rest := [.int v]) hG d_W_490 mi_M_late mv_M_late lk_W_47 ⟨rfl, rfl, (Nat.le_of_ble_eq_true rfl)⟩ ⟨rfl, rfl⟩ ⟨_, _, rfl⟩ (c_M_late hG h2) rfl (Nat.le_trans (jcI jcN) (Nat.le_of_ble_eq_true rfl)) ?_
  exact J.icmp_eq 1727 d_W_493 rfl (fun _ => K) (fun e => absurd rfl e)
theorem law_6 {G : jG} (hG : jFul G) {b L n q : Nat} {xs : Nat → Int32} {i : Nat} (hX : va_X b L xs (js0 G) (js0 G).heap) (hb : b < jL G) (hL : L ≤ 3072) (hi : i + 6 ≤ L) {M M1 M2 : jMem} {v : Int32} {Q : jQT} (h1 : f_C_lose (xs (i + 1)) M = some (v, M1)) (h2 : f_M_lose (xs (i + 1)) M1 = some (v, M2)) (K : JQ G (Y_W n q) 1727 (lawls G b i) [] M2 Q) : JQ G (Y_W n q) 498 (lawls G b i) [] M Q := by
  refine J.aload_n 3 d_W_498 rfl rfl ?_
  refine law_arg 1 hX hb hL (by omega) (by decide) rfl rfl d_W_499 d_W_500 d_W_502 d_W_503 d_W_504 ?_
  refine J.cVi (ci := 0) Y_C_lose (As := [.int (xs (i + 1))]) (rest := []) hG d_W_505 mi_C_lose mv_C_lose lk_W_48 ⟨rfl, rfl, (Nat.le_of_ble_eq_true rfl)⟩ ⟨rfl, rfl⟩ ⟨_, _, rfl⟩ (c_C_lose hG h1) rfl (Nat.le_trans jcN (Nat.le_of_ble_eq_true rfl)) ?_
  refine J.aload_n 2 d_W_508 rfl rfl ?_
  refine law_arg 1 hX hb hL (by omega) (by decide) rfl rfl d_W_509 d_W_510 d_W_512 d_W_513 d_W_514 ?_
  refine J.cVi (ci := 10) Y_M_lose (As := [.int (xs (i + 1))]) (rest := [.int v]) hG d_W_515 mi_M_lose mv_M_lose lk_W_52 ⟨rfl, rfl, (Nat.le_of_ble_eq_true rfl)⟩ ⟨rfl, rfl⟩ ⟨_, _, rfl⟩ (c_M_lose hG h2) rfl (Nat.le_trans (jcI jcN) (Nat.le_of_ble_eq_true rfl)) ?_
  exact J.icmp_eq 1727 d_W_518 rfl (fun _ => K) (fun e => absurd rfl e)
theorem law_7 {G : jG} (hG : jFul G) {b L n q : Nat} {xs : Nat → Int32} {i : Nat} (hX : va_X b L xs (js0 G) (js0 G).heap) (hb : b < jL G) (hL : L ≤ 3072) (hi : i + 6 ≤ L) {M M1 M2 : jMem} {v : Int32} {Q : jQT} (h1 : f_C_again (xs (i + 1)) (xs (i + 2)) (xs (i + 3)) M = some (v, M1)) (h2 : f_M_again (xs (i + 1)) (xs (i + 2)) (xs (i + 3)) M1 = some (v, M2)) (K : JQ G (Y_W n q) 1727 (lawls G b i) [] M2 Q) : JQ G (Y_W n q) 523 (lawls G b i) [] M Q := by
  refine J.aload_n 3 d_W_523 rfl rfl ?_
  refine law_arg 1 hX hb hL (by omega) (by decide) rfl rfl d_W_524 d_W_525 d_W_527 d_W_528 d_W_529 ?_
  refine law_arg 2 hX hb hL (by omega) (by decide) rfl rfl d_W_530 d_W_531 d_W_533 d_W_534 d_W_535 ?_
  refine law_arg 3 hX hb hL (by omega) (by decide) rfl rfl d_W_536 d_W_537 d_W_539 d_W_540 d_W_541 ?_
  refine J.cVi (ci := 0) Y_C_again (As := [.int (xs (i + 1)), .int (xs (i + 2)), .int (xs (i + 3))]) (rest := []) hG d_W_542 mi_C_again mv_C_again lk_W_53 ⟨rfl, rfl, (Nat.le_of_ble_eq_true rfl)⟩ ⟨rfl, rfl⟩ ⟨_, _, rfl⟩ (c_C_again hG h1) rfl (Nat.le_trans jcN (Nat.le_of_ble_eq_true rfl)) ?_
  refine J.aload_n 2 d_W_545 rfl rfl ?_
  refine law_arg 1 hX hb hL (by omega) (by decide) rfl rfl d_W_546 d_W_547 d_W_549 d_W_550 d_W_551 ?_
  refine law_arg 2 hX hb hL (by omega) (by decide) rfl rfl d_W_552 d_W_553 d_W_555 d_W_556 d_W_557 ?_
  refine law_arg 3 hX hb hL (by omega) (by decide) rfl rfl d_W_558 d_W_559 d_W_561 d_W_562 d_W_563 ?_
  refine J.cVi (ci := 10) Y_M_again (As := [.int (xs (i + 1)), .int (xs (i + 2)), .int (xs (i + 3))]) (rest := [.int v]) hG d_W_564 mi_M_again mv_M_again lk_W_57 ⟨rfl, rfl, (Nat.le_of_ble_eq_true rfl)⟩ ⟨rfl, rfl⟩ ⟨_, _, rfl⟩ (c_M_again hG h2) rfl (Nat.le_trans (jcI jcN) (Nat.le_of_ble_eq_true rfl)) ?_
  exact J.icmp_eq 1727 d_W_567 rfl (fun _ => K) (fun e => absurd rfl e)
theorem law_8 {G : jG} (hG : jFul G) {b L n q : Nat} {xs : Nat → Int32} {i : Nat} (hX : va_X b L xs (js0 G) (js0 G).heap) (hb : b < jL G) (hL : L ≤ 3072) (hi : i + 6 ≤ L) {M M1 M2 : jMem} {v : Int32} {Q : jQT} (h1 : f_C_split (xs (i + 1)) (xs (i + 2)) (xs (i + 3)) M = some (v, M1)) (h2 : f_M_split (xs (i + 1)) (xs (i + 2)) (xs (i + 3)) M1 = some (v, M2)) (K : JQ G (Y_W n q) 1727 (lawls G b i) [] M2 Q) : JQ G (Y_W n q) 572 (lawls G b i) [] M Q := by
  refine J.aload_n 3 d_W_572 rfl rfl ?_
  refine law_arg 1 hX hb hL (by omega) (by decide) rfl rfl d_W_573 d_W_574 d_W_576 d_W_577 d_W_578 ?_
  refine law_arg 2 hX hb hL (by omega) (by decide) rfl rfl d_W_579 d_W_580 d_W_582 d_W_583 d_W_584 ?_
  refine law_arg 3 hX hb hL (by omega) (by decide) rfl rfl d_W_585 d_W_586 d_W_588 d_W_589 d_W_590 ?_
  refine J.cVi (ci := 0) Y_C_split (As := [.int (xs (i + 1)), .int (xs (i + 2)), .int (xs (i + 3))]) (rest := []) hG d_W_591 mi_C_split mv_C_split lk_W_58 ⟨rfl, rfl, (Nat.le_of_ble_eq_true rfl)⟩ ⟨rfl, rfl⟩ ⟨_, _, rfl⟩ (c_C_split hG h1) rfl (Nat.le_trans jcN (Nat.le_of_ble_eq_true rfl)) ?_
  refine J.aload_n 2 d_W_594 rfl rfl ?_
  refine law_arg 1 hX hb hL (by omega) (by decide) rfl rfl d_W_595 d_W_596 d_W_598 d_W_599 d_W_600 ?_
  refine law_arg 2 hX hb hL (by omega) (by decide) rfl rfl d_W_601 d_W_602 d_W_604 d_W_605 d_W_606 ?_
  refine law_arg 3 hX hb hL (by omega) (by decide) rfl rfl d_W_607 d_W_608 d_W_610 d_W_611 d_W_612 ?_
  refine J.cVi (ci := 10) Y_M_split (As := [.int (xs (i + 1)), .int (xs (i + 2)), .int (xs (i + 3))]) (rest := [.int v]) hG d_W_613 mi_M_split mv_M_split lk_W_61 ⟨rfl, rfl, (Nat.le_of_ble_eq_true rfl)⟩ ⟨rfl, rfl⟩ ⟨_, _, rfl⟩ (c_M_split hG h2) rfl (Nat.le_trans (jcI jcN) (Nat.le_of_ble_eq_true rfl)) ?_
  exact J.icmp_eq 1727 d_W_616 rfl (fun _ => K) (fun e => absurd rfl e)
theorem law_9 {G : jG} (hG : jFul G) {b L n q : Nat} {xs : Nat → Int32} {i : Nat} (hX : va_X b L xs (js0 G) (js0 G).heap) (hb : b < jL G) (hL : L ≤ 3072) (hi : i + 6 ≤ L) {M M1 M2 : jMem} {v : Int32} {Q : jQT} (h1 : f_C_days (xs (i + 1)) M = some (v, M1)) (h2 : f_M_days (xs (i + 1)) M1 = some (v, M2)) (K : JQ G (Y_W n q) 1727 (lawls G b i) [] M2 Q) : JQ G (Y_W n q) 621 (lawls G b i) [] M Q := by
  refine J.aload_n 3 d_W_621 rfl rfl ?_
  refine law_arg 1 hX hb hL (by omega) (by decide) rfl rfl d_W_622 d_W_623 d_W_625 d_W_626 d_W_627 ?_
  refine J.cVi (ci := 0) Y_C_days (As := [.int (xs (i + 1))]) (rest := []) hG d_W_628 mi_C_days mv_C_days lk_W_62 ⟨rfl, rfl, (Nat.le_of_ble_eq_true rfl)⟩ ⟨rfl, rfl⟩ ⟨_, _, rfl⟩ (c_C_days hG h1) rfl (Nat.le_trans jcN (Nat.le_of_ble_eq_true rfl)) ?_
  refine J.aload_n 2 d_W_631 rfl rfl ?_
  refine law_arg 1 hX hb hL (by omega) (by decide) rfl rfl d_W_632 d_W_633 d_W_635 d_W_636 d_W_637 ?_
  refine J.cVi (ci := 10) Y_M_days (As := [.int (xs (i + 1))]) (rest := [.int v]) hG d_W_638 mi_M_days mv_M_days lk_W_65 ⟨rfl, rfl, (Nat.le_of_ble_eq_true rfl)⟩ ⟨rfl, rfl⟩ ⟨_, _, rfl⟩ (c_M_days hG h2) rfl (Nat.le_trans (jcI jcN) (Nat.le_of_ble_eq_true rfl)) ?_
  exact J.icmp_eq 1727 d_W_641 rfl (fun _ => K) (fun e => absurd rfl e)
theorem law_10 {G : jG} (hG : jFul G) {b L n q : Nat} {xs : Nat → Int32} {i : Nat} (hX : va_X b L xs (js0 G) (js0 G).heap) (hb : b < jL G) (hL : L ≤ 3072) (hi : i + 6 ≤ L) {M M1 M2 : jMem} {v : Int32} {Q : jQT} (h1 : f_C_read (xs (i + 1)) (xs (i + 2)) M = some (v, M1)) (h2 : f_M_read (xs (i + 1)) (xs (i + 2)) M1 = some (v, M2)) (K : JQ G (Y_W n q) 1727 (lawls G b i) [] M2 Q) : JQ G (Y_W n q) 646 (lawls G b i) [] M Q := by
  refine J.aload_n 3 d_W_646 rfl rfl ?_
  refine law_arg 1 hX hb hL (by omega) (by decide) rfl rfl d_W_647 d_W_648 d_W_650 d_W_651 d_W_652 ?_
  refine law_arg 2 hX hb hL (by omega) (by decide) rfl rfl d_W_653 d_W_654 d_W_656 d_W_657 d_W_658 ?_
  refine J.cVi (ci := 0) Y_C_read (As := [.int (xs (i + 1)), .int (xs (i + 2))]) (rest := []) hG d_W_659 mi_C_read mv_C_read lk_W_66 ⟨rfl, rfl, (Nat.le_of_ble_eq_true rfl)⟩ ⟨rfl, rfl⟩ ⟨_, _, rfl⟩ (c_C_read hG h1) rfl (Nat.le_trans jcN (Nat.le_of_ble_eq_true rfl)) ?_
  refine J.aload_n 2 d_W_662 rfl rfl ?_
  refine law_arg 1 hX hb hL (by omega) (by decide) rfl rfl d_W_663 d_W_664 d_W_666 d_W_667 d_W_668 ?_
  refine law_arg 2 hX hb hL (by omega) (by decide) rfl rfl d_W_669 d_W_670 d_W_672 d_W_673 d_W_674 ?_
  refine J.cVi (ci := 10) Y_M_read (As := [.int (xs (i + 1)), .int (xs (i + 2))]) (rest := [.int v]) hG d_W_675 mi_M_read mv_M_read lk_W_69 ⟨rfl, rfl, (Nat.le_of_ble_eq_true rfl)⟩ ⟨rfl, rfl⟩ ⟨_, _, rfl⟩ (c_M_read hG h2) rfl (Nat.le_trans (jcI jcN) (Nat.le_of_ble_eq_true rfl)) ?_
  exact J.icmp_eq 1727 d_W_678 rfl (fun _ => K) (fun e => absurd rfl e)
theorem law_12 {G : jG} (hG : jFul G) {b L n q : Nat} {xs : Nat → Int32} {i : Nat} (hX : va_X b L xs (js0 G) (js0 G).heap) (hb : b < jL G) (hL : L ≤ 3072) (hi : i + 6 ≤ L) {M M1 M2 : jMem} {v : Int32} {Q : jQT} (h1 : f_C_copy (xs (i + 1)) (xs (i + 2)) M = some (v, M1)) (h2 : f_M_copy (xs (i + 1)) (xs (i + 2)) M1 = some (v, M2)) (K : JQ G (Y_W n q) 1727 (lawls G b i) [] M2 Q) : JQ G (Y_W n q) 751 (lawls G b i) [] M Q := by
  refine J.aload_n 3 d_W_751 rfl rfl ?_
  refine law_arg 1 hX hb hL (by omega) (by decide) rfl rfl d_W_752 d_W_753 d_W_755 d_W_756 d_W_757 ?_
  refine law_arg 2 hX hb hL (by omega) (by decide) rfl rfl d_W_758 d_W_759 d_W_761 d_W_762 d_W_763 ?_
  refine J.cVi (ci := 0) Y_C_copy (As := [.int (xs (i + 1)), .int (xs (i + 2))]) (rest := []) hG d_W_764 mi_C_copy mv_C_copy lk_W_80 ⟨rfl, rfl, (Nat.le_of_ble_eq_true rfl)⟩ ⟨rfl, rfl⟩ ⟨_, _, rfl⟩ (c_C_copy hG h1) rfl (Nat.le_trans jcN (Nat.le_of_ble_eq_true rfl)) ?_
  refine J.aload_n 2 d_W_767 rfl rfl ?_
  refine law_arg 1 hX hb hL (by omega) (by decide) rfl rfl d_W_768 d_W_769 d_W_771 d_W_772 d_W_773 ?_
  refine law_arg 2 hX hb hL (by omega) (by decide) rfl rfl d_W_774 d_W_775 d_W_777 d_W_778 d_W_779 ?_
  refine J.cVi (ci := 10) Y_M_copy (As := [.int (xs (i + 1)), .int (xs (i + 2))]) (rest := [.int v]) hG d_W_780 mi_M_copy mv_M_copy lk_W_83 ⟨rfl, rfl, (Nat.le_of_ble_eq_true rfl)⟩ ⟨rfl, rfl⟩ ⟨_, _, rfl⟩ (c_M_copy hG h2) rfl (Nat.le_trans (jcI jcN) (Nat.le_of_ble_eq_true rfl)) ?_
  exact J.icmp_eq 1727 d_W_783 rfl (fun _ => K) (fun e => absurd rfl e)
theorem law_13 {G : jG} (hG : jFul G) {b L n q : Nat} {xs : Nat → Int32} {i : Nat} (hX : va_X b L xs (js0 G) (js0 G).heap) (hb : b < jL G) (hL : L ≤ 3072) (hi : i + 6 ≤ L) {M M1 M2 : jMem} {v : Int32} {Q : jQT} (h1 : f_C_desk (xs (i + 1)) (xs (i + 2)) M = some (v, M1)) (h2 : f_M_desk (xs (i + 1)) (xs (i + 2)) M1 = some (v, M2)) (K : JQ G (Y_W n q) 1727 (lawls G b i) [] M2 Q) : JQ G (Y_W n q) 788 (lawls G b i) [] M Q := by
  refine J.aload_n 3 d_W_788 rfl rfl ?_
  refine law_arg 1 hX hb hL (by omega) (by decide) rfl rfl d_W_789 d_W_790 d_W_792 d_W_793 d_W_794 ?_
  refine law_arg 2 hX hb hL (by omega) (by decide) rfl rfl d_W_795 d_W_796 d_W_798 d_W_799 d_W_800 ?_
  refine J.cVi (ci := 0) Y_C_desk (As := [.int (xs (i + 1)), .int (xs (i + 2))]) (rest := []) hG d_W_801 mi_C_desk mv_C_desk lk_W_84 ⟨rfl, rfl, (Nat.le_of_ble_eq_true rfl)⟩ ⟨rfl, rfl⟩ ⟨_, _, rfl⟩ (c_C_desk hG h1) rfl (Nat.le_trans jcN (Nat.le_of_ble_eq_true rfl)) ?_
  refine J.aload_n 2 d_W_804 rfl rfl ?_
  refine law_arg 1 hX hb hL (by omega) (by decide) rfl rfl d_W_805 d_W_806 d_W_808 d_W_809 d_W_810 ?_
  refine law_arg 2 hX hb hL (by omega) (by decide) rfl rfl d_W_811 d_W_812 d_W_814 d_W_815 d_W_816 ?_
  refine J.cVi (ci := 10) Y_M_desk (As := [.int (xs (i + 1)), .int (xs (i + 2))]) (rest := [.int v]) hG d_W_817 mi_M_desk mv_M_desk lk_W_87 ⟨rfl, rfl, (Nat.le_of_ble_eq_true rfl)⟩ ⟨rfl, rfl⟩ ⟨_, _, rfl⟩ (c_M_desk hG h2) rfl (Nat.le_trans (jcI jcN) (Nat.le_of_ble_eq_true rfl)) ?_
  exact J.icmp_eq 1727 d_W_820 rfl (fun _ => K) (fun e => absurd rfl e)
theorem law_14 {G : jG} (hG : jFul G) {b L n q : Nat} {xs : Nat → Int32} {i : Nat} (hX : va_X b L xs (js0 G) (js0 G).heap) (hb : b < jL G) (hL : L ≤ 3072) (hi : i + 6 ≤ L) {M M1 M2 : jMem} {v : Int32} {Q : jQT} (h1 : f_C_before (xs (i + 1)) (xs (i + 2)) M = some (v, M1)) (h2 : f_M_before (xs (i + 1)) (xs (i + 2)) M1 = some (v, M2)) (K : JQ G (Y_W n q) 1727 (lawls G b i) [] M2 Q) : JQ G (Y_W n q) 825 (lawls G b i) [] M Q := by
  refine J.aload_n 3 d_W_825 rfl rfl ?_
  refine law_arg 1 hX hb hL (by omega) (by decide) rfl rfl d_W_826 d_W_827 d_W_829 d_W_830 d_W_831 ?_
  refine law_arg 2 hX hb hL (by omega) (by decide) rfl rfl d_W_832 d_W_833 d_W_835 d_W_836 d_W_837 ?_
  refine J.cVi (ci := 0) Y_C_before (As := [.int (xs (i + 1)), .int (xs (i + 2))]) (rest := []) hG d_W_838 mi_C_before mv_C_before lk_W_88 ⟨rfl, rfl, (Nat.le_of_ble_eq_true rfl)⟩ ⟨rfl, rfl⟩ ⟨_, _, rfl⟩ (c_C_before hG h1) rfl (Nat.le_trans jcN (Nat.le_of_ble_eq_true rfl)) ?_
  refine J.aload_n 2 d_W_841 rfl rfl ?_
  refine law_arg 1 hX hb hL (by omega) (by decide) rfl rfl d_W_842 d_W_843 d_W_845 d_W_846 d_W_847 ?_
  refine law_arg 2 hX hb hL (by omega) (by decide) rfl rfl d_W_848 d_W_849 d_W_851 d_W_852 d_W_853 ?_
  refine J.cVi (ci := 10) Y_M_before (As := [.int (xs (i + 1)), .int (xs (i + 2))]) (rest := [.int v]) hG d_W_854 mi_M_before mv_M_before lk_W_91 ⟨rfl, rfl, (Nat.le_of_ble_eq_true rfl)⟩ ⟨rfl, rfl⟩ ⟨_, _, rfl⟩ (c_M_before hG h2) rfl (Nat.le_trans (jcI jcN) (Nat.le_of_ble_eq_true rfl)) ?_
  exact J.icmp_eq 1727 d_W_857 rfl (fun _ => K) (fun e => absurd rfl e)
theorem law_15 {G : jG} (hG : jFul G) {b L n q : Nat} {xs : Nat → Int32} {i : Nat} (hX : va_X b L xs (js0 G) (js0 G).heap) (hb : b < jL G) (hL : L ≤ 3072) (hi : i + 6 ≤ L) {M M1 M2 : jMem} {v : Int32} {Q : jQT} (h1 : f_C_path (xs (i + 1)) (xs (i + 2)) (xs (i + 3)) M = some (v, M1)) (h2 : f_M_path (xs (i + 1)) (xs (i + 2)) (xs (i + 3)) M1 = some (v, M2)) (K : JQ G (Y_W n q) 1727 (lawls G b i) [] M2 Q) : JQ G (Y_W n q) 862 (lawls G b i) [] M Q := by
  refine J.aload_n 3 d_W_862 rfl rfl ?_
  refine law_arg 1 hX hb hL (by omega) (by decide) rfl rfl d_W_863 d_W_864 d_W_866 d_W_867 d_W_868 ?_
  refine law_arg 2 hX hb hL (by omega) (by decide) rfl rfl d_W_869 d_W_870 d_W_872 d_W_873 d_W_874 ?_
  refine law_arg 3 hX hb hL (by omega) (by decide) rfl rfl d_W_875 d_W_876 d_W_878 d_W_879 d_W_880 ?_
  refine J.cVi (ci := 0) Y_C_path (As := [.int (xs (i + 1)), .int (xs (i + 2)), .int (xs (i + 3))]) (rest := []) hG d_W_881 mi_C_path mv_C_path lk_W_92 ⟨rfl, rfl, (Nat.le_of_ble_eq_true rfl)⟩ ⟨rfl, rfl⟩ ⟨_, _, rfl⟩ (c_C_path hG h1) rfl (Nat.le_trans jcN (Nat.le_of_ble_eq_true rfl)) ?_
  refine J.aload_n 2 d_W_884 rfl rfl ?_
  refine law_arg 1 hX hb hL (by omega) (by decide) rfl rfl d_W_885 d_W_886 d_W_888 d_W_889 d_W_890 ?_
  refine law_arg 2 hX hb hL (by omega) (by decide) rfl rfl d_W_891 d_W_892 d_W_894 d_W_895 d_W_896 ?_
  refine law_arg 3 hX hb hL (by omega) (by decide) rfl rfl d_W_897 d_W_898 d_W_900 d_W_901 d_W_902 ?_
  refine J.cVi (ci := 10) Y_M_path (As := [.int (xs (i + 1)), .int (xs (i + 2)), .int (xs (i + 3))]) (rest := [.int v]) hG d_W_903 mi_M_path mv_M_path lk_W_95 ⟨rfl, rfl, (Nat.le_of_ble_eq_true rfl)⟩ ⟨rfl, rfl⟩ ⟨_, _, rfl⟩ (c_M_path hG h2) rfl (Nat.le_trans (jcI jcN) (Nat.le_of_ble_eq_true rfl)) ?_
  exact J.icmp_eq 1727 d_W_906 rfl (fun _ => K) (fun e => absurd rfl e)
theorem law_16 {G : jG} (hG : jFul G) {b L n q : Nat} {xs : Nat → Int32} {i : Nat} (hX : va_X b L xs (js0 G) (js0 G).heap) (hb : b < jL G) (hL : L ≤ 3072) (hi : i + 6 ≤ L) {M M1 M2 : jMem} {v : Int32} {Q : jQT} (h1 : f_C_sum (xs (i + 1)) M = some (v, M1)) (h2 : f_M_sum (xs (i + 1)) M1 = some (v, M2)) (K : JQ G (Y_W n q) 1727 (lawls G b i) [] M2 Q) : JQ G (Y_W n q) 911 (lawls G b i) [] M Q := by
  refine J.aload_n 3 d_W_911 rfl rfl ?_
  refine law_arg 1 hX hb hL (by omega) (by decide) rfl rfl d_W_912 d_W_913 d_W_915 d_W_916 d_W_917 ?_
  refine J.cVi (ci := 0) Y_C_sum (As := [.int (xs (i + 1))]) (rest := []) hG d_W_918 mi_C_sum mv_C_sum lk_W_96 ⟨rfl, rfl, (Nat.le_of_ble_eq_true rfl)⟩ ⟨rfl, rfl⟩ ⟨_, _, rfl⟩ (c_C_sum hG h1) rfl (Nat.le_trans jcN (Nat.le_of_ble_eq_true rfl)) ?_
  refine J.aload_n 2 d_W_921 rfl rfl ?_
  refine law_arg 1 hX hb hL (by omega) (by decide) rfl rfl d_W_922 d_W_923 d_W_925 d_W_926 d_W_927 ?_
  refine J.cVi (ci := 10) Y_M_sum (As := [.int (xs (i + 1))]) (rest := [.int v]) hG d_W_928 mi_M_sum mv_M_sum lk_W_99 ⟨rfl, rfl, (Nat.le_of_ble_eq_true rfl)⟩ ⟨rfl, rfl⟩ ⟨_, _, rfl⟩ (c_M_sum hG h2) rfl (Nat.le_trans (jcI jcN) (Nat.le_of_ble_eq_true rfl)) ?_
  exact J.icmp_eq 1727 d_W_931 rfl (fun _ => K) (fun e => absurd rfl e)
theorem law_17 {G : jG} (hG : jFul G) {b L n q : Nat} {xs : Nat → Int32} {i : Nat} (hX : va_X b L xs (js0 G) (js0 G).heap) (hb : b < jL G) (hL : L ≤ 3072) (hi : i + 6 ≤ L) {M M1 M2 : jMem} {v : Int32} {Q : jQT} (h1 : f_C_number (xs (i + 1)) (xs (i + 2)) M = some (v, M1)) (h2 : f_M_number (xs (i + 1)) (xs (i + 2)) M1 = some (v, M2)) (K : JQ G (Y_W n q) 1727 (lawls G b i) [] M2 Q) : JQ G (Y_W n q) 936 (lawls G b i) [] M Q := by
  refine J.aload_n 3 d_W_936 rfl rfl ?_
  refine law_arg 1 hX hb hL (by omega) (by decide) rfl rfl d_W_937 d_W_938 d_W_940 d_W_941 d_W_942 ?_
  refine law_arg 2 hX hb hL (by omega) (by decide) rfl rfl d_W_943 d_W_944 d_W_946 d_W_947 d_W_948 ?_
  refine J.cVi (ci := 0) Y_C_number (As := [.int (xs (i + 1)), .int (xs (i + 2))]) (rest := []) hG d_W_949 mi_C_number mv_C_number lk_W_100 ⟨rfl, rfl, (Nat.le_of_ble_eq_true rfl)⟩ ⟨rfl, rfl⟩ ⟨_, _, rfl⟩ (c_C_number hG h1) rfl (Nat.le_trans jcN (Nat.le_of_ble_eq_true rfl)) ?_
  refine J.aload_n 2 d_W_952 rfl rfl ?_
  refine law_arg 1 hX hb hL (by omega) (by decide) rfl rfl d_W_953 d_W_954 d_W_956 d_W_957 d_W_958 ?_
  refine law_arg 2 hX hb hL (by omega) (by decide) rfl rfl d_W_959 d_W_960 d_W_962 d_W_963 d_W_964 ?_
  refine J.cVi (ci := 10) Y_M_number (As := [.int (xs (i + 1)), .int (xs (i + 2))]) (rest := [.int v]) hG d_W_965 mi_M_number mv_M_number lk_W_103 ⟨rfl, rfl, (Nat.le_of_ble_eq_true rfl)⟩ ⟨rfl, rfl⟩ ⟨_, _, rfl⟩ (c_M_number hG h2) rfl (Nat.le_trans (jcI jcN) (Nat.le_of_ble_eq_true rfl)) ?_
  exact J.icmp_eq 1727 d_W_968 rfl (fun _ => K) (fun e => absurd rfl e)
theorem law_18 {G : jG} (hG : jFul G) {b L n q : Nat} {xs : Nat → Int32} {i : Nat} (hX : va_X b L xs (js0 G) (js0 G).heap) (hb : b < jL G) (hL : L ≤ 3072) (hi : i + 6 ≤ L) {M M1 M2 : jMem} {v : Int32} {Q : jQT} (h1 : f_C_pair (xs (i + 1)) (xs (i + 2)) (xs (i + 3)) M = some (v, M1)) (h2 : f_M_pair (xs (i + 1)) (xs (i + 2)) (xs (i + 3)) M1 = some (v, M2)) (K : JQ G (Y_W n q) 1727 (lawls G b i) [] M2 Q) : JQ G (Y_W n q) 973 (lawls G b i) [] M Q := by
  refine J.aload_n 3 d_W_973 rfl rfl ?_
  refine law_arg 1 hX hb hL (by omega) (by decide) rfl rfl d_W_974 d_W_975 d_W_977 d_W_978 d_W_979 ?_
  refine law_arg 2 hX hb hL (by omega) (by decide) rfl rfl d_W_980 d_W_981 d_W_983 d_W_984 d_W_985 ?_
  refine law_arg 3 hX hb hL (by omega) (by decide) rfl rfl d_W_986 d_W_987 d_W_989 d_W_990 d_W_991 ?_
  refine J.cVi (ci := 0) Y_C_pair (As := [.int (xs (i + 1)), .int (xs (i + 2)), .int (xs (i + 3))]) (rest := []) hG d_W_992 mi_C_pair mv_C_pair lk_W_104 ⟨rfl, rfl, (Nat.le_of_ble_eq_true rfl)⟩ ⟨rfl, rfl⟩ ⟨_, _, rfl⟩ (c_C_pair hG h1) rfl (Nat.le_trans jcN (Nat.le_of_ble_eq_true rfl)) ?_
  refine J.aload_n 2 d_W_995 rfl rfl ?_
  refine law_arg 1 hX hb hL (by omega) (by decide) rfl rfl d_W_996 d_W_997 d_W_999 d_W_1000 d_W_1001 ?_
  refine law_arg 2 hX hb hL (by omega) (by decide) rfl rfl d_W_1002 d_W_1003 d_W_1005 d_W_1006 d_W_1007 ?_
  refine law_arg 3 hX hb hL (by omega) (by decide) rfl rfl d_W_1008 d_W_1009 d_W_1011 d_W_1012 d_W_1013 ?_
  refine J.cVi (ci := 10) Y_M_pair (As := [.int (xs (i + 1)), .int (xs (i + 2)), .int (xs (i + 3))]) (rest := [.int v]) hG d_W_1014 mi_M_pair mv_M_pair lk_W_107 ⟨rfl, rfl, (Nat.le_of_ble_eq_true rfl)⟩ ⟨rfl, rfl⟩ ⟨_, _, rfl⟩ (c_M_pair hG h2) rfl (Nat.le_trans (jcI jcN) (Nat.le_of_ble_eq_true rfl)) ?_
  exact J.icmp_eq 1727 d_W_1017 rfl (fun _ => K) (fun e => absurd rfl e)
theorem law_19 {G : jG} (hG : jFul G) {b L n q : Nat} {xs : Nat → Int32} {i : Nat} (hX : va_X b L xs (js0 G) (js0 G).heap) (hb : b < jL G) (hL : L ≤ 3072) (hi : i + 6 ≤ L) {M M1 M2 : jMem} {v : Int32} {Q : jQT} (h1 : f_C_list (xs (i + 1)) M = some (v, M1)) (h2 : f_M_list (xs (i + 1)) M1 = some (v, M2)) (K : JQ G (Y_W n q) 1727 (lawls G b i) [] M2 Q) : JQ G (Y_W n q) 1022 (lawls G b i) [] M Q := by
  refine J.aload_n 3 d_W_1022 rfl rfl ?_
  refine law_arg 1 hX hb hL (by omega) (by decide) rfl rfl d_W_1023 d_W_1024 d_W_1026 d_W_1027 d_W_1028 ?_
  refine J.cVi (ci := 0) Y_C_list (As := [.int (xs (i + 1))]) (rest := []) hG d_W_1029 mi_C_list mv_C_list lk_W_108 ⟨rfl, rfl, (Nat.le_of_ble_eq_true rfl)⟩ ⟨rfl, rfl⟩ ⟨_, _, rfl⟩ (c_C_list hG h1) rfl (Nat.le_trans jcN (Nat.le_of_ble_eq_true rfl)) ?_
  refine J.aload_n 2 d_W_1032 rfl rfl ?_
  refine law_arg 1 hX hb hL (by omega) (by decide) rfl rfl d_W_1033 d_W_1034 d_W_1036 d_W_1037 d_W_1038 ?_
  refine J.cVi (ci := 10) Y_M_list (As := [.int (xs (i + 1))]) (rest := [.int v]) hG d_W_1039 mi_M_list mv_M_list lk_W_111 ⟨rfl, rfl, (Nat.le_of_ble_eq_true rfl)⟩ ⟨rfl, rfl⟩ ⟨_, _, rfl⟩ (c_M_list hG h2) rfl (Nat.le_trans (jcI jcN) (Nat.le_of_ble_eq_true rfl)) ?_
  exact J.icmp_eq 1727 d_W_1042 rfl (fun _ => K) (fun e => absurd rfl e)
theorem law_20 {G : jG} (hG : jFul G) {b L n q : Nat} {xs : Nat → Int32} {i : Nat} (hX : va_X b L xs (js0 G) (js0 G).heap) (hb : b < jL G) (hL : L ≤ 3072) (hi : i + 6 ≤ L) {M M1 M2 : jMem} {v : Int32} {Q : jQT} (h1 : f_C_tells (xs (i + 1)) (xs (i + 2)) (xs (i + 3)) M = some (v, M1)) (h2 : f_M_tells (xs (i + 1)) (xs (i + 2)) (xs (i + 3)) M1 = some (v, M2)) (K : JQ G (Y_W n q) 1727 (lawls G b i) [] M2 Q) : JQ G (Y_W n q) 1047 (lawls G b i) [] M Q := by
  refine J.aload_n 3 d_W_1047 rfl rfl ?_
  refine law_arg 1 hX hb hL (by omega) (by decide) rfl rfl d_W_1048 d_W_1049 d_W_1051 d_W_1052 d_W_1053 ?_
  refine law_arg 2 hX hb hL (by omega) (by decide) rfl rfl d_W_1054 d_W_1055 d_W_1057 d_W_1058 d_W_1059 ?_
  refine law_arg 3 hX hb hL (by omega) (by decide) rfl rfl d_W_1060 d_W_1061 d_W_1063 d_W_1064 d_W_1065 ?_
  refine J.cVi (ci := 0) Y_C_tells (As := [.int (xs (i + 1)), .int (xs (i + 2)), .int (xs (i + 3))]) (rest := []) hG d_W_1066 mi_C_tells mv_C_tells lk_W_112 ⟨rfl, rfl, (Nat.le_of_ble_eq_true rfl)⟩ ⟨rfl, rfl⟩ ⟨_, _, rfl⟩ (c_C_tells hG h1) rfl (Nat.le_trans jcN (Nat.le_of_ble_eq_true rfl)) ?_
  refine J.aload_n 2 d_W_1069 rfl rfl ?_
  refine law_arg 1 hX hb hL (by omega) (by decide) rfl rfl d_W_1070 d_W_1071 d_W_1073 d_W_1074 d_W_1075 ?_
  refine law_arg 2 hX hb hL (by omega) (by decide) rfl rfl d_W_1076 d_W_1077 d_W_1079 d_W_1080 d_W_1081 ?_
  refine law_arg 3 hX hb hL (by omega) (by decide) rfl rfl d_W_1082 d_W_1083 d_W_1085 d_W_1086 d_W_1087 ?_
  refine J.cVi (ci := 10) Y_M_tells (As := [.int (xs (i + 1)), .int (xs (i + 2)), .int (xs (i + 3))]) (rest := [.int v]) hG d_W_1088 mi_M_tells mv_M_tells lk_W_115 ⟨rfl, rfl, (Nat.le_of_ble_eq_true rfl)⟩ ⟨rfl, rfl⟩ ⟨_, _, rfl⟩ (c_M_tells hG h2) rfl (Nat.le_trans (jcI jcN) (Nat.le_of_ble_eq_true rfl)) ?_
  exact J.icmp_eq 1727 d_W_1091 rfl (fun _ => K) (fun e => absurd rfl e)
theorem law_21 {G : jG} (hG : jFul G) {b L n q : Nat} {xs : Nat → Int32} {i : Nat} (hX : va_X b L xs (js0 G) (js0 G).heap) (hb : b < jL G) (hL : L ≤ 3072) (hi : i + 6 ≤ L) {M M1 M2 : jMem} {v : Int32} {Q : jQT} (h1 : f_C_errs (xs (i + 1)) M = some (v, M1)) (h2 : f_M_errs (xs (i + 1)) M1 = some (v, M2)) (K : JQ G (Y_W n q) 1727 (lawls G b i) [] M2 Q) : JQ G (Y_W n q) 1096 (lawls G b i) [] M Q := by
  refine J.aload_n 3 d_W_1096 rfl rfl ?_
  refine law_arg 1 hX hb hL (by omega) (by decide) rfl rfl d_W_1097 d_W_1098 d_W_1100 d_W_1101 d_W_1102 ?_
  refine J.cVi (ci := 0) Y_C_errs (As := [.int (xs (i + 1))]) (rest := []) hG d_W_1103 mi_C_errs mv_C_errs lk_W_116 ⟨rfl, rfl, (Nat.le_of_ble_eq_true rfl)⟩ ⟨rfl, rfl⟩ ⟨_, _, rfl⟩ (c_C_errs hG h1) rfl (Nat.le_trans jcN (Nat.le_of_ble_eq_true rfl)) ?_
  refine J.aload_n 2 d_W_1106 rfl rfl ?_
  refine law_arg 1 hX hb hL (by omega) (by decide) rfl rfl d_W_1107 d_W_1108 d_W_1110 d_W_1111 d_W_1112 ?_
  refine J.cVi (ci := 10) Y_M_errs (As := [.int (xs (i + 1))]) (rest := [.int v]) hG d_W_1113 mi_M_errs mv_M_errs lk_W_119 ⟨rfl, rfl, (Nat.le_of_ble_eq_true rfl)⟩ ⟨rfl, rfl⟩ ⟨_, _, rfl⟩ (c_M_errs hG h2) rfl (Nat.le_trans (jcI jcN) (Nat.le_of_ble_eq_true rfl)) ?_
  exact J.icmp_eq 1727 d_W_1116 rfl (fun _ => K) (fun e => absurd rfl e)
theorem law_22 {G : jG} (hG : jFul G) {b L n q : Nat} {xs : Nat → Int32} {i : Nat} (hX : va_X b L xs (js0 G) (js0 G).heap) (hb : b < jL G) (hL : L ≤ 3072) (hi : i + 6 ≤ L) {M M1 M2 : jMem} {v : Int32} {Q : jQT} (h1 : f_C_chains (xs (i + 1)) M = some (v, M1)) (h2 : f_M_chains (xs (i + 1)) M1 = some (v, M2)) (K : JQ G (Y_W n q) 1727 (lawls G b i) [] M2 Q) : JQ G (Y_W n q) 1121 (lawls G b i) [] M Q := by
  refine J.aload_n 3 d_W_1121 rfl rfl ?_
  refine law_arg 1 hX hb hL (by omega) (by decide) rfl rfl d_W_1122 d_W_1123 d_W_1125 d_W_1126 d_W_1127 ?_
  refine J.cVi (ci := 0) Y_C_chains (As := [.int (xs (i + 1))]) (rest := []) hG d_W_1128 mi_C_chains mv_C_chains lk_W_120 ⟨rfl, rfl, (Nat.le_of_ble_eq_true rfl)⟩ ⟨rfl, rfl⟩ ⟨_, _, rfl⟩ (c_C_chains hG h1) rfl (Nat.le_trans jcN (Nat.le_of_ble_eq_true rfl)) ?_
  refine J.aload_n 2 d_W_1131 rfl rfl ?_
  refine law_arg 1 hX hb hL (by omega) (by decide) rfl rfl d_W_1132 d_W_1133 d_W_1135 d_W_1136 d_W_1137 ?_
  refine J.cVi (ci := 10) Y_M_chains (As := [.int (xs (i + 1))]) (rest := [.int v]) hG d_W_1138 mi_M_chains mv_M_chains lk_W_123 ⟨rfl, rfl, (Nat.le_of_ble_eq_true rfl)⟩ ⟨rfl, rfl⟩ ⟨_, _, rfl⟩ (c_M_chains hG h2) rfl (Nat.le_trans (jcI jcN) (Nat.le_of_ble_eq_true rfl)) ?_
  exact J.icmp_eq 1727 d_W_1141 rfl (fun _ => K) (fun e => absurd rfl e)
theorem law_23 {G : jG} (hG : jFul G) {b L n q : Nat} {xs : Nat → Int32} {i : Nat} (hX : va_X b L xs (js0 G) (js0 G).heap) (hb : b < jL G) (hL : L ≤ 3072) (hi : i + 6 ≤ L) {M M1 M2 : jMem} {v : Int32} {Q : jQT} (h1 : f_C_waits (xs (i + 1)) (xs (i + 2)) M = some (v, M1)) (h2 : f_M_waits (xs (i + 1)) (xs (i + 2)) M1 = some (v, M2)) (K : JQ G (Y_W n q) 1727 (lawls G b i) [] M2 Q) : JQ G (Y_W n q) 1146 (lawls G b i) [] M Q := by
  refine J.aload_n 3 d_W_1146 rfl rfl ?_
  refine law_arg 1 hX hb hL (by omega) (by decide) rfl rfl d_W_1147 d_W_1148 d_W_1150 d_W_1151 d_W_1152 ?_
  refine law_arg 2 hX hb hL (by omega) (by decide) rfl rfl d_W_1153 d_W_1154 d_W_1156 d_W_1157 d_W_1158 ?_
  refine J.cVi (ci := 0) Y_C_waits (As := [.int (xs (i + 1)), .int (xs (i + 2))]) (rest := []) hG d_W_1159 mi_C_waits mv_C_waits lk_W_124 ⟨rfl, rfl, (Nat.le_of_ble_eq_true rfl)⟩ ⟨rfl, rfl⟩ ⟨_, _, rfl⟩ (c_C_waits hG h1) rfl (Nat.le_trans jcN (Nat.le_of_ble_eq_true rfl)) ?_
  refine J.aload_n 2 d_W_1162 rfl rfl ?_
  refine law_arg 1 hX hb hL (by omega) (by decide) rfl rfl d_W_1163 d_W_1164 d_W_1166 d_W_1167 d_W_1168 ?_
  refine law_arg 2 hX hb hL (by omega) (by decide) rfl rfl d_W_1169 d_W_1170 d_W_1172 d_W_1173 d_W_1174 ?_
  refine J.cVi (ci := 10) Y_M_waits (As := [.int (xs (i + 1)), .int (xs (i + 2))]) (rest := [.int v]) hG d_W_1175 mi_M_waits mv_M_waits lk_W_127 ⟨rfl, rfl, (Nat.le_of_ble_eq_true rfl)⟩ ⟨rfl, rfl⟩ ⟨_, _, rfl⟩ (c_M_waits hG h2) rfl (Nat.le_trans (jcI jcN) (Nat.le_of_ble_eq_true rfl)) ?_
  exact J.icmp_eq 1727 d_W_1178 rfl (fun _ => K) (fun e => absurd rfl e)
theorem law_24 {G : jG} (hG : jFul G) {b L n q : Nat} {xs : Nat → Int32} {i : Nat} (hX : va_X b L xs (js0 G) (js0 G).heap) (hb : b < jL G) (hL : L ≤ 3072) (hi : i + 6 ≤ L) {M M1 M2 : jMem} {v : Int32} {Q : jQT} (h1 : f_C_ever (xs (i + 1)) M = some (v, M1)) (h2 : f_M_ever (xs (i + 1)) M1 = some (v, M2)) (K : JQ G (Y_W n q) 1727 (lawls G b i) [] M2 Q) : JQ G (Y_W n q) 1183 (lawls G b i) [] M Q := by
  refine J.aload_n 3 d_W_1183 rfl rfl ?_
  refine law_arg 1 hX hb hL (by omega) (by decide) rfl rfl d_W_1184 d_W_1185 d_W_1187 d_W_1188 d_W_1189 ?_
  refine J.cVi (ci := 0) Y_C_ever (As := [.int (xs (i + 1))]) (rest := []) hG d_W_1190 mi_C_ever mv_C_ever lk_W_128 ⟨rfl, rfl, (Nat.le_of_ble_eq_true rfl)⟩ ⟨rfl, rfl⟩ ⟨_, _, rfl⟩ (c_C_ever hG h1) rfl (Nat.le_trans jcN (Nat.le_of_ble_eq_true rfl)) ?_
  refine J.aload_n 2 d_W_1193 rfl rfl ?_
  refine law_arg 1 hX hb hL (by omega) (by decide) rfl rfl d_W_1194 d_W_1195 d_W_1197 d_W_1198 d_W_1199 ?_
  refine J.cVi (ci := 10) Y_M_ever (As := [.int (xs (i + 1))]) (rest := [.int v]) hG d_W_1200 mi_M_ever mv_M_ever lk_W_131 ⟨rfl, rfl, (Nat.le_of_ble_eq_true rfl)⟩ ⟨rfl, rfl⟩ ⟨_, _, rfl⟩ (c_M_ever hG h2) rfl (Nat.le_trans (jcI jcN) (Nat.le_of_ble_eq_true rfl)) ?_
  exact J.icmp_eq 1727 d_W_1203 rfl (fun _ => K) (fun e => absurd rfl e)
theorem law_25 {G : jG} (hG : jFul G) {b L n q : Nat} {xs : Nat → Int32} {i : Nat} (hX : va_X b L xs (js0 G) (js0 G).heap) (hb : b < jL G) (hL : L ≤ 3072) (hi : i + 6 ≤ L) {M M1 M2 : jMem} {v : Int32} {Q : jQT} (h1 : f_C_has (xs (i + 1)) M = some (v, M1)) (h2 : f_M_has (xs (i + 1)) M1 = some (v, M2)) (K : JQ G (Y_W n q) 1727 (lawls G b i) [] M2 Q) : JQ G (Y_W n q) 1208 (lawls G b i) [] M Q := by
  refine J.aload_n 3 d_W_1208 rfl rfl ?_
  refine law_arg 1 hX hb hL (by omega) (by decide) rfl rfl d_W_1209 d_W_1210 d_W_1212 d_W_1213 d_W_1214 ?_
  refine J.cVi (ci := 0) Y_C_has (As := [.int (xs (i + 1))]) (rest := []) hG d_W_1215 mi_C_has mv_C_has lk_W_132 ⟨rfl, rfl, (Nat.le_of_ble_eq_true rfl)⟩ ⟨rfl, rfl⟩ ⟨_, _, rfl⟩ (c_C_has hG h1) rfl (Nat.le_trans jcN (Nat.le_of_ble_eq_true rfl)) ?_
  refine J.aload_n 2 d_W_1218 rfl rfl ?_
  refine law_arg 1 hX hb hL (by omega) (by decide) rfl rfl d_W_1219 d_W_1220 d_W_1222 d_W_1223 d_W_1224 ?_
  refine J.cVi (ci := 10) Y_M_has (As := [.int (xs (i + 1))]) (rest := [.int v]) hG d_W_1225 mi_M_has mv_M_has lk_W_135 ⟨rfl, rfl, (Nat.le_of_ble_eq_true rfl)⟩ ⟨rfl, rfl⟩ ⟨_, _, rfl⟩ (c_M_has hG h2) rfl (Nat.le_trans (jcI jcN) (Nat.le_of_ble_eq_true rfl)) ?_
  exact J.icmp_eq 1727 d_W_1228 rfl (fun _ => K) (fun e => absurd rfl e)
theorem law_26 {G : jG} (hG : jFul G) {b L n q : Nat} {xs : Nat → Int32} {i : Nat} (hX : va_X b L xs (js0 G) (js0 G).heap) (hb : b < jL G) (hL : L ≤ 3072) (hi : i + 6 ≤ L) {M M1 M2 : jMem} {v : Int32} {Q : jQT} (h1 : f_C_readOn (xs (i + 1)) (xs (i + 2)) M = some (v, M1)) (h2 : f_M_readOn (xs (i + 1)) (xs (i + 2)) M1 = some (v, M2)) (K : JQ G (Y_W n q) 1727 (lawls G b i) [] M2 Q) : JQ G (Y_W n q) 1233 (lawls G b i) [] M Q := by
  refine J.aload_n 3 d_W_1233 rfl rfl ?_
  refine law_arg 1 hX hb hL (by omega) (by decide) rfl rfl d_W_1234 d_W_1235 d_W_1237 d_W_1238 d_W_1239 ?_
  refine law_arg 2 hX hb hL (by omega) (by decide) rfl rfl d_W_1240 d_W_1241 d_W_1243 d_W_1244 d_W_1245 ?_
  refine J.cVi (ci := 0) Y_C_readOn (As := [.int (xs (i + 1)), .int (xs (i + 2))]) (rest := []) hG d_W_1246 mi_C_readOn mv_C_readOn lk_W_136 ⟨rfl, rfl, (Nat.le_of_ble_eq_true rfl)⟩ ⟨rfl, rfl⟩ ⟨_, _, rfl⟩ (c_C_readOn hG h1) rfl (Nat.le_trans jcN (Nat.le_of_ble_eq_true rfl)) ?_
  refine J.aload_n 2 d_W_1249 rfl rfl ?_
  refine law_arg 1 hX hb hL (by omega) (by decide) rfl rfl d_W_1250 d_W_1251 d_W_1253 d_W_1254 d_W_1255 ?_
  refine law_arg 2 hX hb hL (by omega) (by decide) rfl rfl d_W_1256 d_W_1257 d_W_1259 d_W_1260 d_W_1261 ?_
  refine J.cVi (ci := 10) Y_M_readOn (As := [.int (xs (i + 1)), .int (xs (i + 2))]) (rest := [.int v]) hG d_W_1262 mi_M_readOn mv_M_readOn lk_W_139 ⟨rfl, rfl, (Nat.le_of_ble_eq_true rfl)⟩ ⟨rfl, rfl⟩ ⟨_, _, rfl⟩ (c_M_readOn hG h2) rfl (Nat.le_trans (jcI jcN) (Nat.le_of_ble_eq_true rfl)) ?_
  exact J.icmp_eq 1727 d_W_1265 rfl (fun _ => K) (fun e => absurd rfl e)
theorem law_27 {G : jG} (hG : jFul G) {b L n q : Nat} {xs : Nat → Int32} {i : Nat} (hX : va_X b L xs (js0 G) (js0 G).heap) (hb : b < jL G) (hL : L ≤ 3072) (hi : i + 6 ≤ L) {M M1 M2 : jMem} {v : Int32} {Q : jQT} (h1 : f_C_spread (xs (i + 1)) (xs (i + 2)) M = some (v, M1)) (h2 : f_M_spread (xs (i + 1)) (xs (i + 2)) M1 = some (v, M2)) (K : JQ G (Y_W n q) 1727 (lawls G b i) [] M2 Q) : JQ G (Y_W n q) 1270 (lawls G b i) [] M Q := by
  refine J.aload_n 3 d_W_1270 rfl rfl ?_
  refine law_arg 1 hX hb hL (by omega) (by decide) rfl rfl d_W_1271 d_W_1272 d_W_1274 d_W_1275 d_W_1276 ?_
  refine law_arg 2 hX hb hL (by omega) (by decide) rfl rfl d_W_1277 d_W_1278 d_W_1280 d_W_1281 d_W_1282 ?_
  refine J.cVi (ci := 0) Y_C_spread (As := [.int (xs (i + 1)), .int (xs (i + 2))]) (rest := []) hG d_W_1283 mi_C_spread mv_C_spread lk_W_140 ⟨rfl, rfl, (Nat.le_of_ble_eq_true rfl)⟩ ⟨rfl, rfl⟩ ⟨_, _, rfl⟩ (c_C_spread hG h1) rfl (Nat.le_trans jcN (Nat.le_of_ble_eq_true rfl)) ?_
  refine J.aload_n 2 d_W_1286 rfl rfl ?_
  refine law_arg 1 hX hb hL (by omega) (by decide) rfl rfl d_W_1287 d_W_1288 d_W_1290 d_W_1291 d_W_1292 ?_
  refine law_arg 2 hX hb hL (by omega) (by decide) rfl rfl d_W_1293 d_W_1294 d_W_1296 d_W_1297 d_W_1298 ?_
  refine J.cVi (ci := 10) Y_M_spread (As := [.int (xs (i + 1)), .int (xs (i + 2))]) (rest := [.int v]) hG d_W_1299 mi_M_spread mv_M_spread lk_W_143 ⟨rfl, rfl, (Nat.le_of_ble_eq_true rfl)⟩ ⟨rfl, rfl⟩ ⟨_, _, rfl⟩ (c_M_spread hG h2) rfl (Nat.le_trans (jcI jcN) (Nat.le_of_ble_eq_true rfl)) ?_
  exact J.icmp_eq 1727 d_W_1302 rfl (fun _ => K) (fun e => absurd rfl e)
theorem law_28 {G : jG} (hG : jFul G) {b L n q : Nat} {xs : Nat → Int32} {i : Nat} (hX : va_X b L xs (js0 G) (js0 G).heap) (hb : b < jL G) (hL : L ≤ 3072) (hi : i + 6 ≤ L) {M M1 M2 : jMem} {v : Int32} {Q : jQT} (h1 : f_C_all (xs (i + 1)) M = some (v, M1)) (h2 : f_M_all (xs (i + 1)) M1 = some (v, M2)) (K : JQ G (Y_W n q) 1727 (lawls G b i) [] M2 Q) : JQ G (Y_W n q) 1307 (lawls G b i) [] M Q := by
  refine J.aload_n 3 d_W_1307 rfl rfl ?_
  refine law_arg 1 hX hb hL (by omega) (by decide) rfl rfl d_W_1308 d_W_1309 d_W_1311 d_W_1312 d_W_1313 ?_
  refine J.cVi (ci := 0) Y_C_all (As := [.int (xs (i + 1))]) (rest := []) hG d_W_1314 mi_C_all mv_C_all lk_W_144 ⟨rfl, rfl, (Nat.le_of_ble_eq_true rfl)⟩ ⟨rfl, rfl⟩ ⟨_, _, rfl⟩ (c_C_all hG h1) rfl (Nat.le_trans jcN (Nat.le_of_ble_eq_true rfl)) ?_
  refine J.aload_n 2 d_W_1317 rfl rfl ?_
  refine law_arg 1 hX hb hL (by omega) (by decide) rfl rfl d_W_1318 d_W_1319 d_W_1321 d_W_1322 d_W_1323 ?_
  refine J.cVi (ci := 10) Y_M_all (As := [.int (xs (i + 1))]) (rest := [.int v]) hG d_W_1324 mi_M_all mv_M_all lk_W_147 ⟨rfl, rfl, (Nat.le_of_ble_eq_true rfl)⟩ ⟨rfl, rfl⟩ ⟨_, _, rfl⟩ (c_M_all hG h2) rfl (Nat.le_trans (jcI jcN) (Nat.le_of_ble_eq_true rfl)) ?_
  exact J.icmp_eq 1727 d_W_1327 rfl (fun _ => K) (fun e => absurd rfl e)
theorem law_29 {G : jG} (hG : jFul G) {b L n q : Nat} {xs : Nat → Int32} {i : Nat} (hX : va_X b L xs (js0 G) (js0 G).heap) (hb : b < jL G) (hL : L ≤ 3072) (hi : i + 6 ≤ L) {M M1 M2 : jMem} {v : Int32} {Q : jQT} (h1 : f_C_burn (xs (i + 1)) M = some (v, M1)) (h2 : f_M_burn (xs (i + 1)) M1 = some (v, M2)) (K : JQ G (Y_W n q) 1727 (lawls G b i) [] M2 Q) : JQ G (Y_W n q) 1332 (lawls G b i) [] M Q := by
  refine J.aload_n 3 d_W_1332 rfl rfl ?_
  refine law_arg 1 hX hb hL (by omega) (by decide) rfl rfl d_W_1333 d_W_1334 d_W_1336 d_W_1337 d_W_1338 ?_
  refine J.cVi (ci := 0) Y_C_burn (As := [.int (xs (i + 1))]) (rest := []) hG d_W_1339 mi_C_burn mv_C_burn lk_W_148 ⟨rfl, rfl, (Nat.le_of_ble_eq_true rfl)⟩ ⟨rfl, rfl⟩ ⟨_, _, rfl⟩ (c_C_burn hG h1) rfl (Nat.le_trans jcN (Nat.le_of_ble_eq_true rfl)) ?_
  refine J.aload_n 2 d_W_1342 rfl rfl ?_
  refine law_arg 1 hX hb hL (by omega) (by decide) rfl rfl d_W_1343 d_W_1344 d_W_1346 d_W_1347 d_W_1348 ?_
  refine J.cVi (ci := 10) Y_M_burn (As := [.int (xs (i + 1))]) (rest := [.int v]) hG d_W_1349 mi_M_burn mv_M_burn lk_W_151 ⟨rfl, rfl, (Nat.le_of_ble_eq_true rfl)⟩ ⟨rfl, rfl⟩ ⟨_, _, rfl⟩ (c_M_burn hG h2) rfl (Nat.le_trans (jcI jcN) (Nat.le_of_ble_eq_true rfl)) ?_
  exact J.icmp_eq 1727 d_W_1352 rfl (fun _ => K) (fun e => absurd rfl e)
theorem law_30 {G : jG} (hG : jFul G) {b L n q : Nat} {xs : Nat → Int32} {i : Nat} (hX : va_X b L xs (js0 G) (js0 G).heap) (hb : b < jL G) (hL : L ≤ 3072) (hi : i + 6 ≤ L) {M M1 M2 : jMem} {v : Int32} {Q : jQT} (h1 : f_C_could (xs (i + 1)) (xs (i + 2)) M = some (v, M1)) (h2 : f_M_could (xs (i + 1)) (xs (i + 2)) M1 = some (v, M2)) (K : JQ G (Y_W n q) 1727 (lawls G b i) [] M2 Q) : JQ G (Y_W n q) 1357 (lawls G b i) [] M Q := by
  refine J.aload_n 3 d_W_1357 rfl rfl ?_
  refine law_arg 1 hX hb hL (by omega) (by decide) rfl rfl d_W_1358 d_W_1359 d_W_1361 d_W_1362 d_W_1363 ?_
  refine law_arg 2 hX hb hL (by omega) (by decide) rfl rfl d_W_1364 d_W_1365 d_W_1367 d_W_1368 d_W_1369 ?_
  refine J.cVi (ci := 0) Y_C_could (As := [.int (xs (i + 1)), .int (xs (i + 2))]) (rest := []) hG d_W_1370 mi_C_could mv_C_could lk_W_152 ⟨rfl, rfl, (Nat.le_of_ble_eq_true rfl)⟩ ⟨rfl, rfl⟩ ⟨_, _, rfl⟩ (c_C_could hG h1) rfl (Nat.le_trans jcN (Nat.le_of_ble_eq_true rfl)) ?_
  refine J.aload_n 2 d_W_1373 rfl rfl ?_
  refine law_arg 1 hX hb hL (by omega) (by decide) rfl rfl d_W_1374 d_W_1375 d_W_1377 d_W_1378 d_W_1379 ?_
  refine law_arg 2 hX hb hL (by omega) (by decide) rfl rfl d_W_1380 d_W_1381 d_W_1383 d_W_1384 d_W_1385 ?_
  refine J.cVi (ci := 10) Y_M_could (As := [.int (xs (i + 1)), .int (xs (i + 2))]) (rest := [.int v]) hG d_W_1386 mi_M_could mv_M_could lk_W_155 ⟨rfl, rfl, (Nat.le_of_ble_eq_true rfl)⟩ ⟨rfl, rfl⟩ ⟨_, _, rfl⟩ (c_M_could hG h2) rfl (Nat.le_trans (jcI jcN) (Nat.le_of_ble_eq_true rfl)) ?_
  exact J.icmp_eq 1727 d_W_1389 rfl (fun _ => K) (fun e => absurd rfl e)
theorem law_31 {G : jG} (hG : jFul G) {b L n q : Nat} {xs : Nat → Int32} {i : Nat} (hX : va_X b L xs (js0 G) (js0 G).heap) (hb : b < jL G) (hL : L ≤ 3072) (hi : i + 6 ≤ L) {M M1 M2 : jMem} {v : Int32} {Q : jQT} (h1 : f_C_forged (xs (i + 1)) (xs (i + 2)) (xs (i + 3)) M = some (v, M1)) (h2 : f_M_forged (xs (i + 1)) (xs (i + 2)) (xs (i + 3)) M1 = some (v, M2)) (K : JQ G (Y_W n q) 1727 (lawls G b i) [] M2 Q) : JQ G (Y_W n q) 1394 (lawls G b i) [] M Q := by
  refine J.aload_n 3 d_W_1394 rfl rfl ?_
  refine law_arg 1 hX hb hL (by omega) (by decide) rfl rfl d_W_1395 d_W_1396 d_W_1398 d_W_1399 d_W_1400 ?_
  refine law_arg 2 hX hb hL (by omega) (by decide) rfl rfl d_W_1401 d_W_1402 d_W_1404 d_W_1405 d_W_1406 ?_
  refine law_arg 3 hX hb hL (by omega) (by decide) rfl rfl d_W_1407 d_W_1408 d_W_1410 d_W_1411 d_W_1412 ?_
  refine J.cVi (ci := 0) Y_C_forged (As := [.int (xs (i + 1)), .int (xs (i + 2)), .int (xs (i + 3))]) (rest := []) hG d_W_1413 mi_C_forged mv_C_forged lk_W_156 ⟨rfl, rfl, (Nat.le_of_ble_eq_true rfl)⟩ ⟨rfl, rfl⟩ ⟨_, _, rfl⟩ (c_C_forged hG h1) rfl (Nat.le_trans jcN (Nat.le_of_ble_eq_true rfl)) ?_
  refine J.aload_n 2 d_W_1416 rfl rfl ?_
  refine law_arg 1 hX hb hL (by omega) (by decide) rfl rfl d_W_1417 d_W_1418 d_W_1420 d_W_1421 d_W_1422 ?_
  refine law_arg 2 hX hb hL (by omega) (by decide) rfl rfl d_W_1423 d_W_1424 d_W_1426 d_W_1427 d_W_1428 ?_
  refine law_arg 3 hX hb hL (by omega) (by decide) rfl rfl d_W_1429 d_W_1430 d_W_1432 d_W_1433 d_W_1434 ?_
  refine J.cVi (ci := 10) Y_M_forged (As := [.int (xs (i + 1)), .int (xs (i + 2)), .int (xs (i + 3))]) (rest := [.int v]) hG d_W_1435 mi_M_forged mv_M_forged lk_W_159 ⟨rfl, rfl, (Nat.le_of_ble_eq_true rfl)⟩ ⟨rfl, rfl⟩ ⟨_, _, rfl⟩ (c_M_forged hG h2) rfl (Nat.le_trans (jcI jcN) (Nat.le_of_ble_eq_true rfl)) ?_
  exact J.icmp_eq 1727 d_W_1438 rfl (fun _ => K) (fun e => absurd rfl e)
theorem law_32 {G : jG} (hG : jFul G) {b L n q : Nat} {xs : Nat → Int32} {i : Nat} (hX : va_X b L xs (js0 G) (js0 G).heap) (hb : b < jL G) (hL : L ≤ 3072) (hi : i + 6 ≤ L) {M M1 M2 : jMem} {v : Int32} {Q : jQT} (h1 : f_C_forgers (xs (i + 1)) (xs (i + 2)) M = some (v, M1)) (h2 : f_M_forgers (xs (i + 1)) (xs (i + 2)) M1 = some (v, M2)) (K : JQ G (Y_W n q) 1727 (lawls G b i) [] M2 Q) : JQ G (Y_W n q) 1443 (lawls G b i) [] M Q := by
  refine J.aload_n 3 d_W_1443 rfl rfl ?_
  refine law_arg 1 hX hb hL (by omega) (by decide) rfl rfl d_W_1444 d_W_1445 d_W_1447 d_W_1448 d_W_1449 ?_
  refine law_arg 2 hX hb hL (by omega) (by decide) rfl rfl d_W_1450 d_W_1451 d_W_1453 d_W_1454 d_W_1455 ?_
  refine J.cVi (ci := 0) Y_C_forgers (As := [.int (xs (i + 1)), .int (xs (i + 2))]) (rest := []) hG d_W_1456 mi_C_forgers mv_C_forgers lk_W_160 ⟨rfl, rfl, (Nat.le_of_ble_eq_true rfl)⟩ ⟨rfl, rfl⟩ ⟨_, _, rfl⟩ (c_C_forgers hG h1) rfl (Nat.le_trans jcN (Nat.le_of_ble_eq_true rfl)) ?_
  refine J.aload_n 2 d_W_1459 rfl rfl ?_
  refine law_arg 1 hX hb hL (by omega) (by decide) rfl rfl d_W_1460 d_W_1461 d_W_1463 d_W_1464 d_W_1465 ?_
  refine law_arg 2 hX hb hL (by omega) (by decide) rfl rfl d_W_1466 d_W_1467 d_W_1469 d_W_1470 d_W_1471 ?_
  refine J.cVi (ci := 10) Y_M_forgers (As := [.int (xs (i + 1)), .int (xs (i + 2))]) (rest := [.int v]) hG d_W_1472 mi_M_forgers mv_M_forgers lk_W_163 ⟨rfl, rfl, (Nat.le_of_ble_eq_true rfl)⟩ ⟨rfl, rfl⟩ ⟨_, _, rfl⟩ (c_M_forgers hG h2) rfl (Nat.le_trans (jcI jcN) (Nat.le_of_ble_eq_true rfl)) ?_
  exact J.icmp_eq 1727 d_W_1475 rfl (fun _ => K) (fun e => absurd rfl e)
theorem law_33 {G : jG} (hG : jFul G) {b L n q : Nat} {xs : Nat → Int32} {i : Nat} (hX : va_X b L xs (js0 G) (js0 G).heap) (hb : b < jL G) (hL : L ≤ 3072) (hi : i + 6 ≤ L) {M M1 M2 : jMem} {v : Int32} {Q : jQT} (h1 : f_C_ahead (xs (i + 1)) (xs (i + 2)) M = some (v, M1)) (h2 : f_M_ahead (xs (i + 1)) (xs (i + 2)) M1 = some (v, M2)) (K : JQ G (Y_W n q) 1727 (lawls G b i) [] M2 Q) : JQ G (Y_W n q) 1480 (lawls G b i) [] M Q := by
  refine J.aload_n 3 d_W_1480 rfl rfl ?_
  refine law_arg 1 hX hb hL (by omega) (by decide) rfl rfl d_W_1481 d_W_1482 d_W_1484 d_W_1485 d_W_1486 ?_
  refine law_arg 2 hX hb hL (by omega) (by decide) rfl rfl d_W_1487 d_W_1488 d_W_1490 d_W_1491 d_W_1492 ?_
  refine J.cVi (ci := 0) Y_C_ahead (As := [.int (xs (i + 1)), .int (xs (i + 2))]) (rest := []) hG d_W_1493 mi_C_ahead mv_C_ahead lk_W_164 ⟨rfl, rfl, (Nat.le_of_ble_eq_true rfl)⟩ ⟨rfl, rfl⟩ ⟨_, _, rfl⟩ (c_C_ahead hG h1) rfl (Nat.le_trans jcN (Nat.le_of_ble_eq_true rfl)) ?_
  refine J.aload_n 2 d_W_1496 rfl rfl ?_
  refine law_arg 1 hX hb hL (by omega) (by decide) rfl rfl d_W_1497 d_W_1498 d_W_1500 d_W_1501 d_W_1502 ?_
  refine law_arg 2 hX hb hL (by omega) (by decide) rfl rfl d_W_1503 d_W_1504 d_W_1506 d_W_1507 d_W_1508 ?_
  refine J.cVi (ci := 10) Y_M_ahead (As := [.int (xs (i + 1)), .int (xs (i + 2))]) (rest := [.int v]) hG d_W_1509 mi_M_ahead mv_M_ahead lk_W_167 ⟨rfl, rfl, (Nat.le_of_ble_eq_true rfl)⟩ ⟨rfl, rfl⟩ ⟨_, _, rfl⟩ (c_M_ahead hG h2) rfl (Nat.le_trans (jcI jcN) (Nat.le_of_ble_eq_true rfl)) ?_
  exact J.icmp_eq 1727 d_W_1512 rfl (fun _ => K) (fun e => absurd rfl e)
theorem law_34 {G : jG} (hG : jFul G) {b L n q : Nat} {xs : Nat → Int32} {i : Nat} (hX : va_X b L xs (js0 G) (js0 G).heap) (hb : b < jL G) (hL : L ≤ 3072) (hi : i + 6 ≤ L) {M M1 M2 : jMem} {v : Int32} {Q : jQT} (h1 : f_C_orders (xs (i + 1)) M = some (v, M1)) (h2 : f_M_orders (xs (i + 1)) M1 = some (v, M2)) (K : JQ G (Y_W n q) 1727 (lawls G b i) [] M2 Q) : JQ G (Y_W n q) 1517 (lawls G b i) [] M Q := by
  refine J.aload_n 3 d_W_1517 rfl rfl ?_
  refine law_arg 1 hX hb hL (by omega) (by decide) rfl rfl d_W_1518 d_W_1519 d_W_1521 d_W_1522 d_W_1523 ?_
  refine J.cVi (ci := 0) Y_C_orders (As := [.int (xs (i + 1))]) (rest := []) hG d_W_1524 mi_C_orders mv_C_orders lk_W_168 ⟨rfl, rfl, (Nat.le_of_ble_eq_true rfl)⟩ ⟨rfl, rfl⟩ ⟨_, _, rfl⟩ (c_C_orders hG h1) rfl (Nat.le_trans jcN (Nat.le_of_ble_eq_true rfl)) ?_
  refine J.aload_n 2 d_W_1527 rfl rfl ?_
  refine law_arg 1 hX hb hL (by omega) (by decide) rfl rfl d_W_1528 d_W_1529 d_W_1531 d_W_1532 d_W_1533 ?_
  refine J.cVi (ci := 10) Y_M_orders (As := [.int (xs (i + 1))]) (rest := [.int v]) hG d_W_1534 mi_M_orders mv_M_orders lk_W_171 ⟨rfl, rfl, (Nat.le_of_ble_eq_true rfl)⟩ ⟨rfl, rfl⟩ ⟨_, _, rfl⟩ (c_M_orders hG h2) rfl (Nat.le_trans (jcI jcN) (Nat.le_of_ble_eq_true rfl)) ?_
  exact J.icmp_eq 1727 d_W_1537 rfl (fun _ => K) (fun e => absurd rfl e)
theorem law_35 {G : jG} (hG : jFul G) {b L n q : Nat} {xs : Nat → Int32} {i : Nat} (hX : va_X b L xs (js0 G) (js0 G).heap) (hb : b < jL G) (hL : L ≤ 3072) (hi : i + 6 ≤ L) {M M1 M2 : jMem} {v : Int32} {Q : jQT} (h1 : f_C_order (xs (i + 1)) (xs (i + 2)) (xs (i + 3)) M = some (v, M1)) (h2 : f_M_order (xs (i + 1)) (xs (i + 2)) (xs (i + 3)) M1 = some (v, M2)) (K : JQ G (Y_W n q) 1727 (lawls G b i) [] M2 Q) : JQ G (Y_W n q) 1542 (lawls G b i) [] M Q := by
  refine J.aload_n 3 d_W_1542 rfl rfl ?_
  refine law_arg 1 hX hb hL (by omega) (by decide) rfl rfl d_W_1543 d_W_1544 d_W_1546 d_W_1547 d_W_1548 ?_
  refine law_arg 2 hX hb hL (by omega) (by decide) rfl rfl d_W_1549 d_W_1550 d_W_1552 d_W_1553 d_W_1554 ?_
  refine law_arg 3 hX hb hL (by omega) (by decide) rfl rfl d_W_1555 d_W_1556 d_W_1558 d_W_1559 d_W_1560 ?_
  refine J.cVi (ci := 0) Y_C_order (As := [.int (xs (i + 1)), .int (xs (i + 2)), .int (xs (i + 3))]) (rest := []) hG d_W_1561 mi_C_order mv_C_order lk_W_172 ⟨rfl, rfl, (Nat.le_of_ble_eq_true rfl)⟩ ⟨rfl, rfl⟩ ⟨_, _, rfl⟩ (c_C_order hG h1) rfl (Nat.le_trans jcN (Nat.le_of_ble_eq_true rfl)) ?_
  refine J.aload_n 2 d_W_1564 rfl rfl ?_
  refine law_arg 1 hX hb hL (by omega) (by decide) rfl rfl d_W_1565 d_W_1566 d_W_1568 d_W_1569 d_W_1570 ?_
  refine law_arg 2 hX hb hL (by omega) (by decide) rfl rfl d_W_1571 d_W_1572 d_W_1574 d_W_1575 d_W_1576 ?_
  refine law_arg 3 hX hb hL (by omega) (by decide) rfl rfl d_W_1577 d_W_1578 d_W_1580 d_W_1581 d_W_1582 ?_
  refine J.cVi (ci := 10) Y_M_order (As := [.int (xs (i + 1)), .int (xs (i + 2)), .int (xs (i + 3))]) (rest := [.int v]) hG d_W_1583 mi_M_order mv_M_order lk_W_175 ⟨rfl, rfl, (Nat.le_of_ble_eq_true rfl)⟩ ⟨rfl, rfl⟩ ⟨_, _, rfl⟩ (c_M_order hG h2) rfl (Nat.le_trans (jcI jcN) (Nat.le_of_ble_eq_true rfl)) ?_
  exact J.icmp_eq 1727 d_W_1586 rfl (fun _ => K) (fun e => absurd rfl e)
theorem law_36 {G : jG} (hG : jFul G) {b L n q : Nat} {xs : Nat → Int32} {i : Nat} (hX : va_X b L xs (js0 G) (js0 G).heap) (hb : b < jL G) (hL : L ≤ 3072) (hi : i + 6 ≤ L) {M M1 M2 : jMem} {v : Int32} {Q : jQT} (h1 : f_C_first (xs (i + 1)) (xs (i + 2)) (xs (i + 3)) M = some (v, M1)) (h2 : f_M_first (xs (i + 1)) (xs (i + 2)) (xs (i + 3)) M1 = some (v, M2)) (K : JQ G (Y_W n q) 1727 (lawls G b i) [] M2 Q) : JQ G (Y_W n q) 1591 (lawls G b i) [] M Q := by
  refine J.aload_n 3 d_W_1591 rfl rfl ?_
  refine law_arg 1 hX hb hL (by omega) (by decide) rfl rfl d_W_1592 d_W_1593 d_W_1595 d_W_1596 d_W_1597 ?_
  refine law_arg 2 hX hb hL (by omega) (by decide) rfl rfl d_W_1598 d_W_1599 d_W_1601 d_W_1602 d_W_1603 ?_
  refine law_arg 3 hX hb hL (by omega) (by decide) rfl rfl d_W_1604 d_W_1605 d_W_1607 d_W_1608 d_W_1609 ?_
  refine J.cVi (ci := 0) Y_C_first (As := [.int (xs (i + 1)), .int (xs (i + 2)), .int (xs (i + 3))]) (rest := []) hG d_W_1610 mi_C_first mv_C_first lk_W_176 ⟨rfl, rfl, (Nat.le_of_ble_eq_true rfl)⟩ ⟨rfl, rfl⟩ ⟨_, _, rfl⟩ (c_C_first hG h1) rfl (Nat.le_trans jcN (Nat.le_of_ble_eq_true rfl)) ?_
  refine J.aload_n 2 d_W_1613 rfl rfl ?_
  refine law_arg 1 hX hb hL (by omega) (by decide) rfl rfl d_W_1614 d_W_1615 d_W_1617 d_W_1618 d_W_1619 ?_
  refine law_arg 2 hX hb hL (by omega) (by decide) rfl rfl d_W_1620 d_W_1621 d_W_1623 d_W_1624 d_W_1625 ?_
  refine law_arg 3 hX hb hL (by omega) (by decide) rfl rfl d_W_1626 d_W_1627 d_W_1629 d_W_1630 d_W_1631 ?_
  refine J.cVi (ci := 10) Y_M_first (As := [.int (xs (i + 1)), .int (xs (i + 2)), .int (xs (i + 3))]) (rest := [.int v]) hG d_W_1632 mi_M_first mv_M_first lk_W_179 ⟨rfl, rfl, (Nat.le_of_ble_eq_true rfl)⟩ ⟨rfl, rfl⟩ ⟨_, _, rfl⟩ (c_M_first hG h2) rfl (Nat.le_trans (jcI jcN) (Nat.le_of_ble_eq_true rfl)) ?_
  exact J.icmp_eq 1727 d_W_1635 rfl (fun _ => K) (fun e => absurd rfl e)
theorem law_37 {G : jG} (hG : jFul G) {b L n q : Nat} {xs : Nat → Int32} {i : Nat} (hX : va_X b L xs (js0 G) (js0 G).heap) (hb : b < jL G) (hL : L ≤ 3072) (hi : i + 6 ≤ L) {M M1 M2 : jMem} {v : Int32} {Q : jQT} (h1 : f_C_ask (xs (i + 1)) M = some (v, M1)) (h2 : f_M_ask (xs (i + 1)) M1 = some (v, M2)) (K : JQ G (Y_W n q) 1727 (lawls G b i) [] M2 Q) : JQ G (Y_W n q) 1640 (lawls G b i) [] M Q := by
  refine J.aload_n 3 d_W_1640 rfl rfl ?_
  refine law_arg 1 hX hb hL (by omega) (by decide) rfl rfl d_W_1641 d_W_1642 d_W_1644 d_W_1645 d_W_1646 ?_
  refine J.cVi (ci := 0) Y_C_ask (As := [.int (xs (i + 1))]) (rest := []) hG d_W_1647 mi_C_ask mv_C_ask lk_W_180 ⟨rfl, rfl, (Nat.le_of_ble_eq_true rfl)⟩ ⟨rfl, rfl⟩ ⟨_, _, rfl⟩ (c_C_ask hG h1) rfl (Nat.le_trans jcN (Nat.le_of_ble_eq_true rfl)) ?_
  refine J.aload_n 2 d_W_1650 rfl rfl ?_
  refine law_arg 1 hX hb hL (by omega) (by decide) rfl rfl d_W_1651 d_W_1652 d_W_1654 d_W_1655 d_W_1656 ?_
  refine J.cVi (ci := 10) Y_M_ask (As := [.int (xs (i + 1))]) (rest := [.int v]) hG d_W_1657 mi_M_ask mv_M_ask lk_W_183 ⟨rfl, rfl, (Nat.le_of_ble_eq_true rfl)⟩ ⟨rfl, rfl⟩ ⟨_, _, rfl⟩ (c_M_ask hG h2) rfl (Nat.le_trans (jcI jcN) (Nat.le_of_ble_eq_true rfl)) ?_
  exact J.icmp_eq 1727 d_W_1660 rfl (fun _ => K) (fun e => absurd rfl e)
theorem law_38 {G : jG} (hG : jFul G) {b L n q : Nat} {xs : Nat → Int32} {i : Nat} (hX : va_X b L xs (js0 G) (js0 G).heap) (hb : b < jL G) (hL : L ≤ 3072) (hi : i + 6 ≤ L) {M M1 M2 : jMem} {v : Int32} {Q : jQT} (h1 : f_C_hangs (xs (i + 1)) (xs (i + 2)) M = some (v, M1)) (h2 : f_M_hangs (xs (i + 1)) (xs (i + 2)) M1 = some (v, M2)) (K : JQ G (Y_W n q) 1727 (lawls G b i) [] M2 Q) : JQ G (Y_W n q) 1665 (lawls G b i) [] M Q := by
  refine J.aload_n 3 d_W_1665 rfl rfl ?_
  refine law_arg 1 hX hb hL (by omega) (by decide) rfl rfl d_W_1666 d_W_1667 d_W_1669 d_W_1670 d_W_1671 ?_
  refine law_arg 2 hX hb hL (by omega) (by decide) rfl rfl d_W_1672 d_W_1673 d_W_1675 d_W_1676 d_W_1677 ?_
  refine J.cVi (ci := 0) Y_C_hangs (As := [.int (xs (i + 1)), .int (xs (i + 2))]) (rest := []) hG d_W_1678 mi_C_hangs mv_C_hangs lk_W_184 ⟨rfl, rfl, (Nat.le_of_ble_eq_true rfl)⟩ ⟨rfl, rfl⟩ ⟨_, _, rfl⟩ (c_C_hangs hG h1) rfl (Nat.le_trans jcN (Nat.le_of_ble_eq_true rfl)) ?_
  refine J.aload_n 2 d_W_1681 rfl rfl ?_
  refine law_arg 1 hX hb hL (by omega) (by decide) rfl rfl d_W_1682 d_W_1683 d_W_1685 d_W_1686 d_W_1687 ?_
  refine law_arg 2 hX hb hL (by omega) (by decide) rfl rfl d_W_1688 d_W_1689 d_W_1691 d_W_1692 d_W_1693 ?_
  refine J.cVi (ci := 10) Y_M_hangs (As := [.int (xs (i + 1)), .int (xs (i + 2))]) (rest := [.int v]) hG d_W_1694 mi_M_hangs mv_M_hangs lk_W_187 ⟨rfl, rfl, (Nat.le_of_ble_eq_true rfl)⟩ ⟨rfl, rfl⟩ ⟨_, _, rfl⟩ (c_M_hangs hG h2) rfl (Nat.le_trans (jcI jcN) (Nat.le_of_ble_eq_true rfl)) ?_
  exact J.icmp_eq 1727 d_W_1697 rfl (fun _ => K) (fun e => absurd rfl e)
theorem law_39 {G : jG} (hG : jFul G) {b L n q : Nat} {xs : Nat → Int32} {i : Nat} (hX : va_X b L xs (js0 G) (js0 G).heap) (hb : b < jL G) (hL : L ≤ 3072) (hi : i + 6 ≤ L) {M M1 M2 : jMem} {v : Int32} {Q : jQT} (h1 : f_C_count (xs (i + 1)) M = some (v, M1)) (h2 : f_M_count (xs (i + 1)) M1 = some (v, M2)) (K : JQ G (Y_W n q) 1727 (lawls G b i) [] M2 Q) : JQ G (Y_W n q) 1702 (lawls G b i) [] M Q := by
  refine J.aload_n 3 d_W_1702 rfl rfl ?_
  refine law_arg 1 hX hb hL (by omega) (by decide) rfl rfl d_W_1703 d_W_1704 d_W_1706 d_W_1707 d_W_1708 ?_
  refine J.cVi (ci := 0) Y_C_count (As := [.int (xs (i + 1))]) (rest := []) hG d_W_1709 mi_C_count mv_C_count lk_W_188 ⟨rfl, rfl, (Nat.le_of_ble_eq_true rfl)⟩ ⟨rfl, rfl⟩ ⟨_, _, rfl⟩ (c_C_count hG h1) rfl (Nat.le_trans jcN (Nat.le_of_ble_eq_true rfl)) ?_
  refine J.aload_n 2 d_W_1712 rfl rfl ?_
  refine law_arg 1 hX hb hL (by omega) (by decide) rfl rfl d_W_1713 d_W_1714 d_W_1716 d_W_1717 d_W_1718 ?_
  refine J.cVi (ci := 10) Y_M_count (As := [.int (xs (i + 1))]) (rest := [.int v]) hG d_W_1719 mi_M_count mv_M_count lk_W_191 ⟨rfl, rfl, (Nat.le_of_ble_eq_true rfl)⟩ ⟨rfl, rfl⟩ ⟨_, _, rfl⟩ (c_M_count hG h2) rfl (Nat.le_trans (jcI jcN) (Nat.le_of_ble_eq_true rfl)) ?_
  exact J.icmp_eq 1727 d_W_1722 rfl (fun _ => K) (fun e => absurd rfl e)
